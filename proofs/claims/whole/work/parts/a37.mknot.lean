/-! READ: the reference reads knots -/
section MK
variable {h : xH} {n : Nat} {T : Tap} {p : Nat} {s : TS}
theorem rs8u {x y : xH} (f : Fr RS8 x y) : Fr RSU x y := f.mono (fun r k z => by unfold RS8 at z; unfold RSU; omega)
theorem rs40u {x y : xH} (f : Fr RS40 x y) : Fr RSU x y := f.mono (fun r k z => by unfold RS40 at z; unfold RSU; omega)
theorem rsut {x y : xH} (f : Fr RSU x y) : Fr RST x y := f.mono (fun r k z => by unfold RSU at z; unfold RST; omega)
theorem rsft {x y : xH} (f : Fr RSF x y) : Fr RST x y := f.mono (fun r k z => by unfold RSF at z; unfold RST; omega)
theorem rwt {x : xH} (v : Int32) : Fr RST x (sI (sI x 220 37 v) 220 39 0) := (Fr.I _ (Or.inl ⟨rfl, Or.inl ⟨by decide, by decide⟩⟩)).tr (Fr.I _ (Or.inl ⟨rfl, Or.inl ⟨by decide, by decide⟩⟩))
/-- a told knot is laid down -/
theorem m_k111 {x : Int} {first : Bool} (t : Rp h n T p) (hp : p < n) (g : hI h 220 39 = 1) (l : Tld h s) (hN : tN s < 12) (hf : first = false → 0 < tN s) : (∀ f, kno3 s first x (fraP T n (p + 1)) = .inl f → ∃ h', fX7_readKnot_b111 220 (bz first) (i32 x) h = some ((), h') ∧ hI h' 220 37 = i32 (f : Int) ∧ hI h' 220 39 = 0 ∧ Fr RST h h') ∧ (∀ s' e, kno3 s first x (fraP T n (p + 1)) = .inr (s', e) → ∃ h', fX7_readKnot_b111 220 (bz first) (i32 x) h = some ((), h') ∧ Rp h' n T e ∧ Tld h' s' ∧ Fr RSU h h') := by
  have M := t.1
  obtain ⟨t1, F1⟩ := t.adv hp
  have e38 : sI h 220 38 (hI h 220 38 + 1) = sI h 220 38 (i32 ((p + 1 : Nat) : Int)) := by rw [t.2.2.2.1, one32, i32_add, kp1]
  have g1 : hI (sI h 220 38 (i32 ((p + 1 : Nat) : Int))) 220 39 = 1 := by rw [hI_sI, if_neg (by omega)]; exact g
  have fr1 := m_frac t1 g1
  cases e1 : fraP T n (p + 1) with
  | inl f =>
    obtain ⟨w, h2, E2, g2, g2b, F2⟩ := fr1.1 f e1
    refine ⟨fun f' hf' => ⟨h2, ?_, by rw [g2, Sum.inl.inj hf'], g2b, (rsut (rs8u F1)).tr (rsft F2)⟩, fun s' e hv => by cases hv⟩
    unfold fX7_readKnot_b111
    rw [if_pos M.k220, if_neg (by rw [g]; decide), lt_def, e38, E2, bd_some, if_pos g2b]
  | inr r =>
    obtain ⟨y, p2⟩ := r
    obtain ⟨h2, E2, g40, t2, F2⟩ := fr1.2 y p2 e1
    have M2 := t2.1
    have g2 : hI h2 220 39 = 1 := by rw [(F2.2.2 220 39 (by unfold RS40; omega)).1]; exact g1
    have l2 : Tld h2 s := (l.fr F1 ⟨by unfold RS8; omega, fun r k a b => by unfold RS8; omega⟩).fr F2 ⟨by unfold RS40; omega, fun r k a b => by unfold RS40; omega⟩
    refine ⟨(fun f' hf' => by cases hf'), fun s' e hv => ?_⟩
    have ev0 := Sum.inr.inj hv
    have es := congrArg Prod.fst ev0
    have ep := congrArg Prod.snd ev0
    dsimp only at es ep
    rw [← es, ← ep]
    have xN : ix (i32 (tN s : Int)) 12 := ix_i (by omega) (by omega) (by decide)
    have nN := nat_i (tN s) (by omega)
    have eX : ∀ k, tX (addT s first x y) k = if k = tN s then x else tX s k := fun k => rfl
    have eY : ∀ k, tY (addT s first x y) k = if k = tN s then y else tY s k := fun k => rfl
    have F3 : Fr RSU h2 (sI (sI (sI h2 247 (tN s) (i32 x)) 248 (tN s) (i32 y)) 249 (tN s) 0) := ((Fr.I _ (Or.inr ⟨by decide, by decide⟩)).tr (Fr.I _ (Or.inr ⟨by decide, by decide⟩))).tr (Fr.I _ (Or.inr ⟨by decide, by decide⟩))
    have M3 : Mo (sI (sI (sI h2 247 (tN s) (i32 x)) 248 (tN s) (i32 y)) 249 (tN s) 0) := F3.mo M2
    have Ma : Mo (sI h2 247 (tN s) (i32 x)) := (Fr.I (A := RSU) _ (Or.inr ⟨by decide, by decide⟩)).mo M2
    have Mb : Mo (sI (sI h2 247 (tN s) (i32 x)) 248 (tN s) (i32 y)) := (Fr.I (A := RSU) _ (Or.inr ⟨by decide, by decide⟩)).mo Ma
    have a44 : hI (sI h2 247 (tN s) (i32 x)) 220 44 = i32 (tN s : Int) := by rw [hI_sI, if_neg (by omega)]; exact l2.1
    have b44 : hI (sI (sI h2 247 (tN s) (i32 x)) 248 (tN s) (i32 y)) 220 44 = i32 (tN s : Int) := by rw [hI_sI, if_neg (by omega)]; exact a44
    have c44 : hI (sI (sI (sI h2 247 (tN s) (i32 x)) 248 (tN s) (i32 y)) 249 (tN s) 0) 220 44 = i32 (tN s : Int) := by rw [hI_sI, if_neg (by omega)]; exact b44
    have start : ∀ R, (if bz first = 0 then (if ix ((i32 (tN s : Int)) - (1 : Int32)) 12 then lt (sI (sI (sI (sI h2 247 (tN s) (i32 x)) 248 (tN s) (i32 y)) 249 (tN s) 0) 249 ((i32 (tN s : Int)) - (1 : Int32)).toNatClampNeg (1 : Int32)) (fun g26 => fX7_readKnot_b188 220 g26) else none) else fX7_readKnot_b188 220 (sI (sI (sI h2 247 (tN s) (i32 x)) 248 (tN s) (i32 y)) 249 (tN s) 0)) = R → fX7_readKnot_b111 220 (bz first) (i32 x) h = R := by
      intro R hR
      unfold fX7_readKnot_b111
      rw [if_pos M.k220, if_neg (by rw [g]; decide), lt_def, e38, E2, bd_some, if_neg (by rw [g2]; decide), M2.r41, if_pos M2.k247, M2.l247, l2.1, if_pos xN, lt_def]
      simp only [nN]
      rw [Ma.r42, if_pos Ma.k248, Ma.l248, a44, if_pos xN, lt_def]
      simp only [nN]
      rw [Mb.r43, if_pos Mb.k249, Mb.l249, b44, if_pos xN, lt_def]
      simp only [nN]
      rw [M3.r43, if_pos M3.k249, M3.l249, c44]
      exact hR
    -- the last write of the count
    have fin : ∀ gg : xH, Mo gg → hI gg 220 44 = i32 (tN s : Int) → Rp gg n T p2 → Fr RSU h gg → (∀ k, k < tN s + 1 → hI gg 247 k = i32 (tX (addT s first x y) k) ∧ hI gg 248 k = i32 (tY (addT s first x y) k) ∧ hI gg 249 k = bz (tG (addT s first x y) k)) → ∃ h', fX7_readKnot_b188 220 gg = some ((), h') ∧ Rp h' n T p2 ∧ Tld h' (addT s first x y) ∧ Fr RSU h h' := by
      intro gg Mg g44 tg Fg hc
      have f4 : Fr (fun r k => r = 220 ∧ k = 44) gg (sI gg 220 44 (i32 ((tN s + 1 : Nat) : Int))) := Fr.I _ ⟨rfl, rfl⟩
      refine ⟨_, ?_, tg.sm f4 ⟨by omega, by omega, fun k => by omega⟩, ⟨by rw [hI_sI, if_pos ⟨rfl, rfl⟩]; rfl, fun k hk => ?_⟩, Fg.tr (f4.mono (fun r k z => by unfold RSU; omega))⟩
      · unfold fX7_readKnot_b188
        rw [if_pos Mg.k220, lt_def, g44, one32, i32_add, kp1]
      · rw [(f4.2.2 247 k (by omega)).1, (f4.2.2 248 k (by omega)).1, (f4.2.2 249 k (by omega)).1]
        exact hc k hk
    have F13 : Fr RSU h (sI (sI (sI h2 247 (tN s) (i32 x)) 248 (tN s) (i32 y)) 249 (tN s) 0) := ((rs8u F1).tr (rs40u F2)).tr F3
    have t3 : Rp (sI (sI (sI h2 247 (tN s) (i32 x)) 248 (tN s) (i32 y)) 249 (tN s) 0) n T p2 := t2.sm (A := fun r _ => 247 ≤ r ∧ r ≤ 249) (((Fr.I _ ⟨by decide, by decide⟩).tr (Fr.I _ ⟨by decide, by decide⟩)).tr (Fr.I _ ⟨by decide, by decide⟩)) ⟨by omega, by omega, fun k => by omega⟩
    have cells : ∀ k, k < tN s + 1 → hI (sI (sI (sI h2 247 (tN s) (i32 x)) 248 (tN s) (i32 y)) 249 (tN s) 0) 247 k = i32 (tX (addT s first x y) k) ∧ hI (sI (sI (sI h2 247 (tN s) (i32 x)) 248 (tN s) (i32 y)) 249 (tN s) 0) 248 k = i32 (tY (addT s first x y) k) ∧ hI (sI (sI (sI h2 247 (tN s) (i32 x)) 248 (tN s) (i32 y)) 249 (tN s) 0) 249 k = bz (if k = tN s then false else tG s k) := by
      intro k hk
      refine ⟨?_, ?_, ?_⟩
      · rw [eX, hI_sI, if_neg (by omega), hI_sI, if_neg (by omega), hI_sI]
        by_cases c : k = tN s
        · rw [if_pos ⟨rfl, c⟩, if_pos c]
        · rw [if_neg (fun z => c z.2), if_neg c]; exact (l2.2 k (by omega)).1
      · rw [eY, hI_sI, if_neg (by omega), hI_sI]
        by_cases c : k = tN s
        · rw [if_pos ⟨rfl, c⟩, if_pos c]
        · rw [if_neg (fun z => c z.2), if_neg c, hI_sI, if_neg (by omega)]; exact (l2.2 k (by omega)).2.1
      · rw [hI_sI]
        by_cases c : k = tN s
        · rw [if_pos ⟨rfl, c⟩, if_pos c]; rfl
        · rw [if_neg (fun z => c z.2), if_neg c, hI_sI, if_neg (by omega), hI_sI, if_neg (by omega)]; exact (l2.2 k (by omega)).2.2
    cases first with
    | true =>
      obtain ⟨h4, E4, R4⟩ := fin _ M3 c44 t3 F13 (fun k hk => cells k hk)
      refine ⟨h4, start _ ?_, R4⟩
      rw [if_neg bzt0]
      exact E4
    | false =>
      have hN0 := hf rfl
      have xm : ix (i32 ((tN s : Int) - 1)) 12 := ix_i (by omega) (by omega) (by decide)
      have nm : (i32 ((tN s : Int) - 1)).toNatClampNeg = tN s - 1 := by rw [i32_nat (by omega) (by omega)]; omega
      have F4 : Fr (fun r _ => r = 249) (sI (sI (sI h2 247 (tN s) (i32 x)) 248 (tN s) (i32 y)) 249 (tN s) 0) (sI (sI (sI (sI h2 247 (tN s) (i32 x)) 248 (tN s) (i32 y)) 249 (tN s) 0) 249 (tN s - 1) 1) := Fr.I _ rfl
      obtain ⟨h4, E4, R4⟩ := fin _ (F4.mo M3) (by rw [(F4.2.2 220 44 (by omega)).1]; exact c44) (t3.sm F4 ⟨by omega, by omega, fun k => by omega⟩) (F13.tr (F4.mono (fun r k z => Or.inr ⟨by omega, by omega⟩))) (fun k hk => by
        have ck := cells k hk
        refine ⟨by rw [(F4.2.2 247 k (by omega)).1]; exact ck.1, by rw [(F4.2.2 248 k (by omega)).1]; exact ck.2.1, ?_⟩
        show _ = bz (if k = tN s - 1 then true else if k = tN s then false else tG s k)
        rw [hI_sI]
        by_cases c : k = tN s - 1
        · rw [if_pos ⟨rfl, c⟩, if_pos c]; rfl
        · rw [if_neg (fun z => c z.2), if_neg c]; exact ck.2.2)
      refine ⟨h4, start _ ?_, R4⟩
      rw [if_pos bz_f, one32, i32_sub, if_pos xm, lt_def]
      simp only [nm]
      exact E4
theorem m_knotT {first : Bool} (t : Rp h n T p) (g : hI h 220 39 = 1) (l : Tld h s) (ok : TOk s) (hf : first = false → 0 < tN s) : (∀ f, knoP T n first p s = .inl f → ∃ h', fX7_readKnot 220 (bz first) h = some ((), h') ∧ hI h' 220 37 = i32 (f : Int) ∧ hI h' 220 39 = 0 ∧ Fr RST h h') ∧ (∀ s' e, knoP T n first p s = .inr (s', e) → ∃ h', fX7_readKnot 220 (bz first) h = some ((), h') ∧ Rp h' n T e ∧ Tld h' s' ∧ Fr RSU h h') := by
  have M := t.1
  have n12 := ok.1
  obtain ⟨h1, E1, t1, F1⟩ := m_sign t
  have q3 : hI h1 220 38 = i32 (sk T n p : Int) := t1.2.2.2.1
  have g1 : hI h1 220 39 = 1 := by rw [(F1.2.2 220 39 (by unfold RS8; omega)).1]; exact g
  have l1 : Tld h1 s := l.fr F1 ⟨by unfold RS8; omega, fun r k a b => by unfold RS8; omega⟩
  have e12 : (hI h1 220 44 = (12 : Int32)) ↔ tN s = 12 := by
    rw [l1.1, show (12 : Int32) = i32 12 from rfl, i32_eq ⟨by omega, by omega⟩ ⟨by decide, by decide⟩]; omega
  -- both ways to a stop
  have z111 : ∀ (gg : xH) (w : Int32), Mo gg → hI gg 220 39 = 0 → fX7_readKnot_b111 220 (bz first) w gg = some ((), gg) := fun gg w Mg g0 => by
    unfold fX7_readKnot_b111
    rw [if_pos Mg.k220, if_pos g0]
  have z87 : ∀ (gg : xH) (w : Int32), Mo gg → hI gg 220 39 = 0 → fX7_readKnot_b87 220 (bz first) w gg = some ((), gg) := fun gg w Mg g0 => by
    unfold fX7_readKnot_b87
    rw [if_pos Mg.k220, if_pos g0, z111 gg w Mg g0]
  by_cases c12 : 12 ≤ tN s
  · have ek : knoP T n first p s = .inl (sk T n p) := if_pos c12
    refine ⟨fun f hf' => ?_, fun s' e hv => by rw [ek] at hv; cases hv⟩
    rw [ek] at hf'
    refine ⟨_, ?_, by rw [hI_sI, if_neg (by omega), hI_sI, if_pos ⟨rfl, rfl⟩, Sum.inl.inj hf'], by rw [hI_sI, if_pos ⟨rfl, rfl⟩], (rsut (rs8u F1)).tr (rwt (i32 (sk T n p : Int)))⟩
    unfold fX7_readKnot
    rw [if_pos M.k220, E1, bd_some, if_pos (e12.mpr (by omega)), q3, m_wrong t1.1 g1, bd_some]
  · have ek : knoP T n first p s = kno2 T n (sk T n p) s first (fraP T n p) := if_neg c12
    have fr1 := m_frac t1 g1
    rw [fra_sk] at fr1
    rw [ek]
    cases e1 : fraP T n p with
    | inl f =>
      obtain ⟨w, h2, E2, g2, g2b, F2⟩ := fr1.1 f e1
      refine ⟨fun f' hf' => ⟨h2, ?_, by rw [g2, Sum.inl.inj hf'], g2b, (rsut (rs8u F1)).tr (rsft F2)⟩, fun s' e hv => by cases hv⟩
      unfold fX7_readKnot
      rw [if_pos M.k220, E1, bd_some, if_neg (fun z => by have := e12.mp z; omega), E2, bd_some, if_pos g2b, z87 h2 w (F2.mo t1.1) g2b]
    | inr r =>
      obtain ⟨x, p1⟩ := r
      obtain ⟨h2, E2, g40, t2, F2⟩ := fr1.2 x p1 e1
      rw [sk_sk] at g40
      have M2 := t2.1
      have b1 := fra_b t.2.2.2.2.1 e1
      have g2 : hI h2 220 39 = 1 := by rw [(F2.2.2 220 39 (by unfold RS40; omega)).1]; exact g1
      have l2 : Tld h2 s := l1.fr F2 ⟨by unfold RS40; omega, fun r k a b => by unfold RS40; omega⟩
      have F12 : Fr RSU h h2 := (rs8u F1).tr (rs40u F2)
      have test : ∀ R : Option (Unit × xH), (early s first x = true → fX7_readKnot_b79 220 (bz first) (i32 x) h2 = R) → (early s first x = false → fX7_readKnot_b87 220 (bz first) (i32 x) h2 = R) → fX7_readKnot 220 (bz first) h = R := by
        intro R r1 r2
        unfold fX7_readKnot
        rw [if_pos M.k220, E1, bd_some, if_neg (fun z => by have := e12.mp z; omega), E2, bd_some, if_neg (by rw [g2]; decide), l2.1]
        by_cases z0 : tN s = 0
        · rw [if_pos (by rw [z0]; decide)]
          exact r2 (decide_eq_false (fun z => by have := z.1; omega))
        · have bl := ok.2.1 (tN s - 1) (by omega)
          have xm : ix (i32 ((tN s : Int) - 1)) 12 := ix_i (by omega) (by omega) (by decide)
          have nm : (i32 ((tN s : Int) - 1)).toNatClampNeg = tN s - 1 := by rw [i32_nat (by omega) (by omega)]; omega
          have lx := (l2.2 (tN s - 1) (by omega)).1
          rw [if_neg (fun z => by have := (i32_le (b := 0) ⟨by omega, by omega⟩ ⟨by decide, by decide⟩).mp z; omega)]
          cases first with
          | true =>
            rw [if_neg bzt0, M2.r41, if_pos M2.k247, M2.l247, one32, i32_sub, if_pos xm]
            simp only [nm]
            rw [lx]
            by_cases cx : tX s (tN s - 1) ≤ x
            · rw [if_pos ((i32_le ⟨by omega, by omega⟩ ⟨by omega, by omega⟩).mpr cx)]
              exact r2 (decide_eq_false (fun z => by have z2 := z.2; rw [if_pos rfl] at z2; omega))
            · rw [if_neg (fun z => cx ((i32_le ⟨by omega, by omega⟩ ⟨by omega, by omega⟩).mp z))]
              exact r1 (decide_eq_true ⟨by omega, by rw [if_pos rfl]; omega⟩)
          | false =>
            rw [if_pos bz_f, M2.r41, if_pos M2.k247, M2.l247, one32, i32_sub, if_pos xm]
            simp only [nm]
            rw [lx]
            by_cases cx : tX s (tN s - 1) < x
            · rw [if_pos ((i32_lt ⟨by omega, by omega⟩ ⟨by omega, by omega⟩).mpr cx)]
              exact r2 (decide_eq_false (fun z => by have z2 := z.2; rw [if_neg (by decide)] at z2; omega))
            · rw [if_neg (fun z => cx ((i32_lt ⟨by omega, by omega⟩ ⟨by omega, by omega⟩).mp z))]
              exact r1 (decide_eq_true ⟨by omega, by rw [if_neg (by decide)]; omega⟩)
      cases ee : early s first x with
      | true =>
        have e2 : kno2 T n (sk T n p) s first (.inr (x, p1)) = .inl (sk T n p) := if_pos ee
        rw [e2]
        refine ⟨fun f hf' => ?_, fun s' e hv => by cases hv⟩
        refine ⟨_, test _ (fun _ => ?_) (fun z => by rw [ee] at z; cases z), by rw [hI_sI, if_neg (by omega), hI_sI, if_pos ⟨rfl, rfl⟩, Sum.inl.inj hf'], by rw [hI_sI, if_pos ⟨rfl, rfl⟩], (rsut F12).tr (rwt (i32 (sk T n p : Int)))⟩
        unfold fX7_readKnot_b79
        rw [if_pos M2.k220, g40, m_wrong M2 g2, bd_some, z87 _ _ ((rwt (x := h2) (i32 (sk T n p : Int))).mo M2) (by rw [hI_sI, if_pos ⟨rfl, rfl⟩])]
      | false =>
        have e2 : kno2 T n (sk T n p) s first (.inr (x, p1)) = if sk T n p1 < n ∧ T (sk T n p1) = 44 then kno3 s first x (fraP T n (sk T n p1 + 1)) else .inl (sk T n p1) := if_neg (by rw [ee]; decide)
        rw [e2]
        obtain ⟨h3, E3, t3, F3⟩ := m_sign t2
        have g3 : hI h3 220 39 = 1 := by rw [(F3.2.2 220 39 (by unfold RS8; omega)).1]; exact g2
        have l3 : Tld h3 s := l2.fr F3 ⟨by unfold RS8; omega, fun r k a b => by unfold RS8; omega⟩
        have F13 : Fr RSU h h3 := F12.tr (rs8u F3)
        have q33 : hI h3 220 38 = i32 (sk T n p1 : Int) := t3.2.2.2.1
        by_cases c4 : sk T n p1 < n ∧ T (sk T n p1) = 44
        · rw [if_pos c4]
          have kk := m_k111 (x := x) (first := first) t3 c4.1 g3 l3 (by omega) hf
          have go : ∀ R, fX7_readKnot_b111 220 (bz first) (i32 x) h3 = R → fX7_readKnot 220 (bz first) h = R := fun R hR => test R (fun z => by rw [ee] at z; cases z) (fun _ => by
            unfold fX7_readKnot_b87
            rw [if_pos M2.k220, if_neg (by rw [g2]; decide), E3, bd_some, if_pos ((sgn_is (by decide)).mpr c4)]
            exact hR)
          refine ⟨fun f hf' => ?_, fun s' e hv => ?_⟩
          · obtain ⟨h4, E4, g4, g4b, F4⟩ := kk.1 f hf'
            exact ⟨h4, go _ E4, g4, g4b, (rsut F13).tr F4⟩
          · obtain ⟨h4, E4, t4, l4, F4⟩ := kk.2 s' e hv
            exact ⟨h4, go _ E4, t4, l4, F13.tr F4⟩
        · rw [if_neg c4]
          refine ⟨fun f hf' => ?_, fun s' e hv => by cases hv⟩
          refine ⟨_, test _ (fun z => by rw [ee] at z; cases z) (fun _ => ?_), by rw [hI_sI, if_neg (by omega), hI_sI, if_pos ⟨rfl, rfl⟩, Sum.inl.inj hf'], by rw [hI_sI, if_pos ⟨rfl, rfl⟩], (rsut F13).tr (rwt (i32 (sk T n p1 : Int)))⟩
          unfold fX7_readKnot_b87
          rw [if_pos M2.k220, if_neg (by rw [g2]; decide), E3, bd_some, if_neg (fun z => c4 ((sgn_is (by decide)).mp z)), q33, m_wrong t3.1 g3, bd_some, z111 _ _ ((rwt (x := h3) (i32 (sk T n p1 : Int))).mo t3.1) (by rw [hI_sI, if_pos ⟨rfl, rfl⟩])]
end MK
