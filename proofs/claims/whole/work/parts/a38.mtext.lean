/-! READ: the reference reads the whole TEXT -/
def contP (T : Tap) (n d p : Nat) (s : TS) : Sum Nat TS := if n ≤ sk T n p then .inr s else if T (sk T n p) = 124 then txtP T n d true (sk T n p + 1) s else txtP T n d false (sk T n p) s
theorem txt_s (T : Tap) (n d p : Nat) (first : Bool) (s : TS) : txtP T n (d + 1) first p s = (match knoP T n first p s with | .inl f => .inl f | .inr (s', p') => contP T n d p' s') := rfl
/-- what stands when the reading is over -/
def DoneR (h g : xH) (r : Sum Nat TS) : Prop := Mo g ∧ Fr RST h g ∧ match r with
  | .inl f => hI g 220 37 = i32 (f : Int) ∧ hI g 220 39 = 0
  | .inr s => hI g 220 37 = hI h 220 37 ∧ hI g 220 39 = 1 ∧ Tld g s ∧ TOk s
section MT
variable {n : Nat} {T : Tap}
theorem DoneR.pre {h h1 g : xH} {r : Sum Nat TS} (f : Fr RSU h h1) (d : DoneR h1 g r) : DoneR h g r := by
  refine ⟨d.1, (rsut f).tr d.2.1, ?_⟩
  have d3 := d.2.2
  cases r with
  | inl f => exact d3
  | inr s => exact ⟨by rw [d3.1]; exact (f.2.2 220 37 (by unfold RSU; omega)).1, d3.2⟩
theorem m_stop {i : Int32} {h : xH} {m M0 : Nat} (Mo0 : Mo h) (g0 : hI h 220 39 = 0) : bd (fX7_readPart_l5 (m + 1) 220 h) (fun _ g9 => fX7_read_l43 (M0 + 1) 220 i g9) = fX7_read_b102 220 i h := by
  show bd (fX7_readPart_b5 (fX7_readPart_l5 m) 220 h) (fun _ g9 => fX7_read_b43 (fX7_read_l43 M0) 220 i g9) = _
  unfold fX7_readPart_b5
  rw [if_pos Mo0.k220, if_pos g0, bd_some]
  unfold fX7_read_b43 fX7_read_b76
  rw [if_pos Mo0.k220, if_pos g0, if_pos Mo0.k220, if_pos g0]
theorem m_txt {i : Int32} : ∀ (d p m M0 : Nat) (h : xH) (s : TS), d ≤ 500 → n + 1 ≤ p + d → d < m → d < M0 → Rp h n T p → hI h 220 39 = 1 → Tld h s → TOk s → 0 < tN s → ∃ g, bd (fX7_readPart_l5 m 220 h) (fun _ g9 => fX7_read_l43 M0 220 i g9) = fX7_read_b102 220 i g ∧ DoneR h g (contP T n d p s) := by
  intro d
  induction d with
  | zero =>
    intro p m M0 h s d5 hd hm hM t
    have := t.2.2.2.2.1
    omega
  | succ d ih =>
    intro p m M0 h s d5 hd hm hM t g l ok h0
    obtain ⟨m, rfl⟩ : ∃ k, m = k + 1 := ⟨m - 1, by omega⟩
    obtain ⟨M0, rfl⟩ : ∃ k, M0 = k + 1 := ⟨M0 - 1, by omega⟩
    have M := t.1
    obtain ⟨h1, E1, t1, F1⟩ := m_sign t
    have hs := sk_b (T := T) t.2.2.2.2.1
    have g1 : hI h1 220 39 = 1 := by rw [(F1.2.2 220 39 (by unfold RS8; omega)).1]; exact g
    have l1 : Tld h1 s := l.fr F1 ⟨by unfold RS8; omega, fun r k a b => by unfold RS8; omega⟩
    obtain ⟨h2, E2, t2, F2⟩ := m_sign t1
    rw [sk_sk] at E2 t2
    have g2 : hI h2 220 39 = 1 := by rw [(F2.2.2 220 39 (by unfold RS8; omega)).1]; exact g1
    have l2 : Tld h2 s := l1.fr F2 ⟨by unfold RS8; omega, fun r k a b => by unfold RS8; omega⟩
    have F12 : Fr RSU h h2 := (rs8u F1).tr (rs8u F2)
    -- a knot that goes on the part, from a heap gg at the sign
    have goes : ∀ gg : xH, Rp gg n T (sk T n p) → hI gg 220 39 = 1 → Tld gg s → Fr RSU h gg → sk T n p < n → ¬ T (sk T n p) = 124 → ∃ g', bd (fX7_readPart_b31 (fX7_readPart_l5 m) 220 gg) (fun _ g9 => fX7_read_l43 (M0 + 1) 220 i g9) = fX7_read_b102 220 i g' ∧ DoneR h g' (contP T n (d + 1) p s) := by
      intro gg tg g9 lg Fg hq h124
      have ec : contP T n (d + 1) p s = txtP T n (d + 1) false (sk T n p) s := (if_neg (by omega)).trans (if_neg h124)
      rw [ec, txt_s]
      have kk := m_knotT (first := false) tg g9 lg ok (fun _ => h0)
      cases e1 : knoP T n false (sk T n p) s with
      | inl f =>
        obtain ⟨h3, E3, g3, g3b, F3⟩ := kk.1 f e1
        have E3' : fX7_readKnot 220 0 gg = some ((), h3) := E3
        have M3 := F3.mo tg.1
        refine ⟨h3, ?_, M3, (rsut Fg).tr F3, g3, g3b⟩
        obtain ⟨m', rfl⟩ : ∃ k, m = k + 1 := ⟨m - 1, by omega⟩
        unfold fX7_readPart_b31
        rw [if_pos tg.1.k220, E3', bd_some]
        exact m_stop M3 g3b
      | inr r =>
        obtain ⟨s1, p1⟩ := r
        obtain ⟨h3, E3, t3, l3, F3⟩ := kk.2 s1 p1 e1
        have E3' : fX7_readKnot 220 0 gg = some ((), h3) := E3
        obtain ⟨ok1, lt1, le1, N1⟩ := kno_ok ok hs.2 (fun _ => h0) e1
        have g3 : hI h3 220 39 = 1 := by rw [(F3.2.2 220 39 (by unfold RSU; omega)).1]; exact g9
        obtain ⟨g', E4, D4⟩ := ih p1 m (M0 + 1) h3 s1 (by omega) (by omega) (by omega) (by omega) t3 g3 l3 ok1 (by omega)
        refine ⟨g', ?_, DoneR.pre (Fg.tr F3) D4⟩
        unfold fX7_readPart_b31
        rw [if_pos tg.1.k220, E3', bd_some]
        exact E4
    have main : ∀ R, bd (if dig (sgT T n (sk T n p)) = true then fX7_readPart_b31 (fX7_readPart_l5 m) 220 h1 else (if sgT T n (sk T n p) = (45 : Int32) then fX7_readPart_b31 (fX7_readPart_l5 m) 220 h2 else some ((), h2))) (fun _ g9 => fX7_read_l43 (M0 + 1) 220 i g9) = R → bd (fX7_readPart_l5 (m + 1) 220 h) (fun _ g9 => fX7_read_l43 (M0 + 1) 220 i g9) = R := by
      intro R hR
      show bd (fX7_readPart_b5 (fX7_readPart_l5 m) 220 h) _ = _
      unfold fX7_readPart_b5
      rw [if_pos M.k220, if_neg (by rw [g]; decide), E1, bd_some, m_isDig, bd_some, bz_eq0]
      rw [E2, bd_some]
      exact hR
    by_cases cq : sk T n p < n
    · have es : sgT T n (sk T n p) = T (sk T n p) := if_pos cq
      cases cd : dig (T (sk T n p)) with
      | true =>
        have n124 : ¬ T (sk T n p) = 124 := fun z => by rw [z] at cd; exact absurd cd (by decide)
        obtain ⟨g', E', D'⟩ := goes h1 t1 g1 l1 (rs8u F1) cq n124
        exact ⟨g', main _ (by rw [es, cd, if_pos rfl]; exact E'), D'⟩
      | false =>
        by_cases c45 : T (sk T n p) = 45
        · have n124 : ¬ T (sk T n p) = 124 := fun z => by rw [z] at c45; exact absurd c45 (by decide)
          obtain ⟨g', E', D'⟩ := goes h2 t2 g2 l2 F12 cq n124
          exact ⟨g', main _ (by rw [es, cd, if_neg (by decide), if_pos c45]; exact E'), D'⟩
        · -- the part is over
          obtain ⟨h3, E3, t3, F3⟩ := m_sign t2
          rw [sk_sk] at E3 t3
          have g3 : hI h3 220 39 = 1 := by rw [(F3.2.2 220 39 (by unfold RS8; omega)).1]; exact g2
          have l3 : Tld h3 s := l2.fr F3 ⟨by unfold RS8; omega, fun r k a b => by unfold RS8; omega⟩
          have F13 : Fr RSU h h3 := F12.tr (rs8u F3)
          have q3 : hI h3 220 38 = i32 (sk T n p : Int) := t3.2.2.2.1
          by_cases c124 : T (sk T n p) = 124
          · have ec : contP T n (d + 1) p s = txtP T n (d + 1) true (sk T n p + 1) s := (if_neg (by omega)).trans (if_pos c124)
            rw [ec, txt_s]
            obtain ⟨t4, F4⟩ := t3.adv cq
            have g4 : hI (sI h3 220 38 (i32 ((sk T n p + 1 : Nat) : Int))) 220 39 = 1 := by rw [hI_sI, if_neg (by omega)]; exact g3
            have l4 : Tld (sI h3 220 38 (i32 ((sk T n p + 1 : Nat) : Int))) s := l3.fr F4 ⟨by unfold RS8; omega, fun r k a b => by unfold RS8; omega⟩
            have F14 : Fr RSU h (sI h3 220 38 (i32 ((sk T n p + 1 : Nat) : Int))) := F13.tr (rs8u F4)
            have kk := m_knotT (first := true) t4 g4 l4 ok (fun z => by cases z)
            have go : ∀ (h5 : xH), fX7_readKnot 220 1 (sI h3 220 38 (i32 ((sk T n p + 1 : Nat) : Int))) = some ((), h5) → ∀ R, bd (fX7_readPart_l5 FU 220 h5) (fun _ g9 => fX7_read_l43 M0 220 i g9) = R → bd (fX7_readPart_l5 (m + 1) 220 h) (fun _ g9 => fX7_read_l43 (M0 + 1) 220 i g9) = R := by
              intro h5 E5 R hR
              refine main _ ?_
              rw [es, cd, if_neg (by decide), if_neg c45, bd_some]
              show fX7_read_b43 (fX7_read_l43 M0) 220 i h2 = _
              unfold fX7_read_b43
              rw [if_pos t2.1.k220, if_neg (by rw [g2]; decide), E3, bd_some, es, if_pos c124, lt_def, q3, one32, i32_add, kp1]
              unfold fX7_readPart
              rw [if_pos t4.1.k220, E5, bd_some]
              exact hR
            cases e1 : knoP T n true (sk T n p + 1) s with
            | inl f =>
              obtain ⟨h5, E5, g5, g5b, F5⟩ := kk.1 f e1
              have M5 := F5.mo t4.1
              refine ⟨h5, go h5 E5 _ ?_, M5, (rsut F14).tr F5, g5, g5b⟩
              obtain ⟨M1, rfl⟩ : ∃ k, M0 = k + 1 := ⟨M0 - 1, by omega⟩
              rw [FU_eq]
              exact m_stop M5 g5b
            | inr r =>
              obtain ⟨s1, p1⟩ := r
              obtain ⟨h5, E5, t5, l5, F5⟩ := kk.2 s1 p1 e1
              obtain ⟨ok1, lt1, le1, N1⟩ := kno_ok ok (show sk T n p + 1 ≤ n by omega) (fun z => by cases z) e1
              have g5 : hI h5 220 39 = 1 := by rw [(F5.2.2 220 39 (by unfold RSU; omega)).1]; exact g4
              obtain ⟨g', E6, D6⟩ := ih p1 FU M0 h5 s1 (by omega) (by omega) (by rw [FU_eq]; omega) (by omega) t5 g5 l5 ok1 (by omega)
              exact ⟨g', go h5 E5 _ E6, DoneR.pre (F14.tr F5) D6⟩
          · have ec : contP T n (d + 1) p s = .inl (sk T n p) := by
              have e0 : contP T n (d + 1) p s = txtP T n (d + 1) false (sk T n p) s := (if_neg (by omega)).trans (if_neg c124)
              rw [e0, txt_s, kno_bad (sk_st p) cd c45]
            rw [ec]
            refine ⟨_, main _ ?_, (rwt (x := h3) (i32 (sk T n p : Int))).mo t3.1, (rsut F13).tr (rwt (i32 (sk T n p : Int))), by rw [hI_sI, if_neg (by omega), hI_sI, if_pos ⟨rfl, rfl⟩], by rw [hI_sI, if_pos ⟨rfl, rfl⟩]⟩
            rw [es, cd, if_neg (by decide), if_neg c45, bd_some]
            show fX7_read_b43 (fX7_read_l43 M0) 220 i h2 = _
            have n4 := t.2.2.2.2.2
            unfold fX7_read_b43 fX7_read_b76
            rw [if_pos t2.1.k220, if_neg (by rw [g2]; decide), E3, bd_some, es, if_neg c124, if_pos t3.1.k220, if_neg (by rw [g3]; decide), t3.2.1, q3, if_neg (fun z => by have := (i32_le ⟨by omega, by omega⟩ ⟨by omega, by omega⟩).mp z; omega), m_wrong t3.1 g3, bd_some]
    · have es : sgT T n (sk T n p) = 0 := if_neg cq
      have ec : contP T n (d + 1) p s = .inr s := if_pos (by omega)
      rw [ec]
      obtain ⟨h3, E3, t3, F3⟩ := m_sign t2
      rw [sk_sk] at E3 t3
      have g3 : hI h3 220 39 = 1 := by rw [(F3.2.2 220 39 (by unfold RS8; omega)).1]; exact g2
      have l3 : Tld h3 s := l2.fr F3 ⟨by unfold RS8; omega, fun r k a b => by unfold RS8; omega⟩
      have F13 : Fr RSU h h3 := F12.tr (rs8u F3)
      have n4 := t.2.2.2.2.2
      refine ⟨h3, main _ ?_, t3.1, rsut F13, (F13.2.2 220 37 (by unfold RSU; omega)).1, g3, l3, ok⟩
      rw [es, if_neg (by decide), if_neg (by decide), bd_some]
      show fX7_read_b43 (fX7_read_l43 M0) 220 i h2 = _
      unfold fX7_read_b43 fX7_read_b76
      rw [if_pos t2.1.k220, if_neg (by rw [g2]; decide), E3, bd_some, es, if_neg (by decide), if_pos t3.1.k220, if_neg (by rw [g3]; decide), t3.2.1, t3.2.2.2.1, if_pos ((i32_le ⟨by omega, by omega⟩ ⟨by omega, by omega⟩).mpr (by omega))]
theorem m_readText {i : Int32} {h : xH} (M : Mo h) (e0 : hI h 220 36 = i32 (n : Int)) (eT : ∀ k, k < n → hI h 246 k = T k) (n4 : n ≤ 400) : ∃ g, bd (fX7_readPart 220 (sI (sI (sI (sI h 220 37 (-1)) 220 38 0) 220 39 1) 220 44 0)) (fun _ g20 => fX7_read_l43 FU 220 i g20) = fX7_read_b102 220 i g ∧ Mo g ∧ Fr RST h g ∧ (∀ f, txtR T n = .inl f → hI g 220 37 = i32 (f : Int) ∧ hI g 220 39 = 0) ∧ (∀ s, txtR T n = .inr s → hI g 220 37 = i32 (-1) ∧ hI g 220 39 = 1 ∧ Tld g s ∧ TOk s) := by
  have F : Fr RST h (sI (sI (sI (sI h 220 37 (-1)) 220 38 0) 220 39 1) 220 44 0) := (((Fr.I _ (Or.inl ⟨rfl, Or.inl ⟨by decide, by decide⟩⟩)).tr (Fr.I _ (Or.inl ⟨rfl, Or.inl ⟨by decide, by decide⟩⟩))).tr (Fr.I _ (Or.inl ⟨rfl, Or.inl ⟨by decide, by decide⟩⟩))).tr (Fr.I _ (Or.inl ⟨rfl, Or.inr rfl⟩))
  have t : Rp (sI (sI (sI (sI h 220 37 (-1)) 220 38 0) 220 39 1) 220 44 0) n T 0 := by
    refine ⟨F.mo M, ?_, fun k hk => ?_, ?_, by omega, n4⟩
    · rw [hI_sI, if_neg (by omega), hI_sI, if_neg (by omega), hI_sI, if_neg (by omega), hI_sI, if_neg (by omega)]; exact e0
    · rw [hI_sI, if_neg (by omega), hI_sI, if_neg (by omega), hI_sI, if_neg (by omega), hI_sI, if_neg (by omega)]; exact eT k hk
    · rw [hI_sI, if_neg (by omega), hI_sI, if_neg (by omega), hI_sI, if_pos ⟨rfl, rfl⟩]; rfl
  have g : hI (sI (sI (sI (sI h 220 37 (-1)) 220 38 0) 220 39 1) 220 44 0) 220 39 = 1 := by rw [hI_sI, if_neg (by omega), hI_sI, if_pos ⟨rfl, rfl⟩]
  have f37 : hI (sI (sI (sI (sI h 220 37 (-1)) 220 38 0) 220 39 1) 220 44 0) 220 37 = i32 (-1) := by rw [hI_sI, if_neg (by omega), hI_sI, if_neg (by omega), hI_sI, if_neg (by omega), hI_sI, if_pos ⟨rfl, rfl⟩]; rfl
  have l : Tld (sI (sI (sI (sI h 220 37 (-1)) 220 38 0) 220 39 1) 220 44 0) ts0 := ⟨by rw [hI_sI, if_pos ⟨rfl, rfl⟩]; rfl, (fun k hk => absurd hk (Nat.not_lt_zero k))⟩
  have kk := m_knotT (first := true) t g l ts0_ok (fun z => by cases z)
  have ex : txtR T n = (match knoP T n true 0 ts0 with | .inl f => .inl f | .inr (s', p') => contP T n n p' s') := rfl
  have go : ∀ (h5 : xH), fX7_readKnot 220 1 (sI (sI (sI (sI h 220 37 (-1)) 220 38 0) 220 39 1) 220 44 0) = some ((), h5) → ∀ R, bd (fX7_readPart_l5 FU 220 h5) (fun _ g9 => fX7_read_l43 FU 220 i g9) = R → bd (fX7_readPart 220 (sI (sI (sI (sI h 220 37 (-1)) 220 38 0) 220 39 1) 220 44 0)) (fun _ g20 => fX7_read_l43 FU 220 i g20) = R := by
    intro h5 E5 R hR
    unfold fX7_readPart
    rw [if_pos t.1.k220, E5, bd_some]
    exact hR
  rw [ex]
  cases e1 : knoP T n true 0 ts0 with
  | inl f =>
    obtain ⟨h5, E5, g5, g5b, F5⟩ := kk.1 f e1
    have M5 := F5.mo t.1
    refine ⟨h5, go h5 E5 _ ?_, M5, F.tr F5, fun f' hf => ⟨by rw [g5, Sum.inl.inj hf], g5b⟩, fun s hs => by cases hs⟩
    rw [FU_eq]
    exact m_stop M5 g5b
  | inr r =>
    obtain ⟨s1, p1⟩ := r
    obtain ⟨h5, E5, t5, l5, F5⟩ := kk.2 s1 p1 e1
    obtain ⟨ok1, lt1, le1, N1⟩ := kno_ok ts0_ok (show 0 ≤ n by omega) (fun z => by cases z) e1
    have g5 : hI h5 220 39 = 1 := by rw [(F5.2.2 220 39 (by unfold RSU; omega)).1]; exact g
    have q37 : hI h5 220 37 = i32 (-1) := by rw [(F5.2.2 220 37 (by unfold RSU; omega)).1]; exact f37
    obtain ⟨g', E6, D6⟩ := m_txt (i := i) n p1 FU FU h5 s1 (by omega) (by omega) (by rw [FU_eq]; omega) (by rw [FU_eq]; omega) t5 g5 l5 ok1 (by omega)
    refine ⟨g', go h5 E5 _ E6, D6.1, F.tr ((rsut F5).tr D6.2.1), fun f hf => ?_, fun s hs => ?_⟩
    · have hf : contP T n n p1 s1 = .inl f := hf
      rw [hf] at D6
      exact D6.2.2
    · have hs : contP T n n p1 s1 = .inr s := hs
      rw [hs] at D6
      exact ⟨by rw [D6.2.2.1]; exact q37, D6.2.2.2⟩
end MT
