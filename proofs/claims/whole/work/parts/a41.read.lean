/-! CALLS: read -/
def rdA (S : Ast) (v : Int32) : Ast := (aC S, aU S, aI S, (0, (aT S).2), v, aS S, aR S)
def ARd (r k : Nat) : Prop := r = 64 ∨ AY 67 r k
def RDM (r c : Nat) : Prop := (r = 220 ∧ (c = 0 ∨ (36 ≤ c ∧ c ≤ 40) ∨ c = 44)) ∨ (247 ≤ r ∧ r ≤ 249)
section RD
variable {h : xH} {S : Ast}
theorem c_rd {g : xH} {v : Int32} (C : CSt h S) (F : Fr ARd h g) (e0 : hI g 64 0 = 0) (e1 : hI g 64 1 = v) : CSt g (rdA S v) ∧ Out h g := by
  obtain ⟨cap, lst, c1, c2, c3, c4, c5⟩ := C
  have ec : cnt g = cnt h ∧ siz g = siz h := by unfold cnt siz; rw [F.1]; exact ⟨rfl, rfl⟩
  refine ⟨⟨cap, lst, c1.fr F (fun r k fr z => ?_) (fun k => by unfold ARd AY; omega), c2, by unfold Room; rw [ec.1, ec.2]; exact c3, by rw [(F.2.2 2 6 (by unfold ARd AY; omega)).1]; exact c4, fun k hk => by rw [(F.2.2 66 k (by unfold ARd AY; omega)).1]; exact c5.1 k hk, e0, e1, fun k hk => absurd hk (Nat.not_lt_zero k)⟩, F.out (fun r k p q => by unfold ARd AY; omega)⟩
  rcases z with z | z
  · have := fr.2.1
    rw [z] at this; cases this
  · exact frc_no (ay_ok z).1 (ay_ok z).2.1 fr
theorem m_rd {g : xH} {v : Int32} (K : AOk S) (M : MSt h S) (F : Fr RDM h g) (e0 : hI g 220 36 = 0) (e1 : hI g 220 37 = v) : MSt g (rdA S v) := by
  obtain ⟨m1, m2, m3, m4, m5⟩ := M
  have mc := MCo.fr ⟨m1, m2, m3⟩ K F (fun r c p q => by unfold RDM; omega) (by unfold RDM; omega)
  exact ⟨mc.1, mc.2.1, mc.2.2, by rw [(F.2.2 220 1 (by unfold RDM; omega)).1]; exact m4, fun k hk => by rw [(F.2.2 221 k (by unfold RDM; omega)).1]; exact m5.1 k hk, e0, e1, fun k hk => absurd hk (Nat.not_lt_zero k)⟩
theorem rd_ok {v : Int32} (K : AOk S) : AOk (rdA S v) := ⟨K.1, K.2.1, K.2.2.1, Nat.zero_le _⟩
theorem m_ref2 {a : Int} (K : AOk S) (M : MSt h S) (ha : -6 ≤ a ∧ a ≤ -1) : ∃ h1, fX7_refuse 220 (i32 a) h = some (i32 a, h1) ∧ MSt h1 (refA S a) ∧ Fr In220 h h1 := by
  obtain ⟨m1, m2, m3, m4, m5⟩ := M
  have ex : ∃ g, g = sI (sI h 220 1 (i32 a)) 221 (-a).toNat (hI h 221 (-a).toNat + 1) := ⟨_, rfl⟩
  obtain ⟨g, eg⟩ := ex
  have f : Fr (fun r c => (r = 220 ∧ c = 1) ∨ r = 221) h g := by
    rw [eg]
    exact (Fr.I _ (Or.inl ⟨rfl, rfl⟩)).tr (Fr.I _ (Or.inr rfl))
  have mc : MCo g S := MCo.fr ⟨m1, m2, m3⟩ K f (fun r c p q => by omega) (by omega)
  have E := m_refuse (h := h) m1.1 ha
  rw [← eg] at E
  refine ⟨g, E, ⟨mc.1, mc.2.1, mc.2.2, ?_, fun k hk => ?_, ?_, ?_, fun k hk => ?_⟩, f.mono (fun r c z => by unfold In220; omega)⟩
  · rw [eg, hI_sI, if_neg (by omega), hI_sI, if_pos ⟨rfl, rfl⟩]; rfl
  · show _ = (if k = (-a).toNat then aR S k + 1 else aR S k)
    rw [eg, hI_sI]
    by_cases c : k = (-a).toNat
    · rw [if_pos ⟨rfl, c⟩, if_pos c, ← c, m5.1 k hk]
    · rw [if_neg (fun z => c z.2), if_neg c, hI_sI, if_neg (by omega)]; exact m5.1 k hk
  · rw [(f.2.2 220 36 (by omega)).1]; exact m5.2.1
  · rw [(f.2.2 220 37 (by omega)).1]; exact m5.2.2.1
  · rw [(f.2.2 246 k (by omega)).1]; exact m5.2.2.2 k hk
theorem c_intoS {slot : Nat} {act : Int} {sps : List Spn} (hl : sps.length ≤ 31) (hb : ∀ p ∈ sps, SpB p) (hs : slot < 7) (C : CSt h S) (w : CLl h 67 (sps.map lby)) : ∃ g2 g3 ks, fX1_lowestInto 67 (hR h 2 1) h = some ((), g2) ∧ fX6_settle 2 (i32 act) (i32 (slot : Int)) g2 = some (i32 (ks.length : Int), g3) ∧ PaperIs (lnn (sps.map lby)) (sps.map lby).length ks ∧ CSt g3 (actA S act slot ks) ∧ Out h g3 := by
  obtain ⟨cap, lst, c1, c2, c3, c4, c5⟩ := C
  have co1 := c1.1.1
  have W1 := c1.1.2.1 7 (by decide)
  have fx : ∀ r k, AX h (sh h 7) r k → FrC r := fun r k z => c1.1.2.2.2.1 7 (by decide) r k z
  have ap : Apt h (sh h 7) 67 := fun j hj => ⟨fun e => frc_no (r := 67 + j) (by omega) (by omega) (fx (67 + j) 0 (Or.inl e)), fun i a b e => frc_no (r := 67 + j) (by omega) (by omega) (fx (67 + j) 0 (Or.inr ⟨i, a, b, e⟩))⟩
  obtain ⟨g2, cap', ks, E2, W2, P2, T2⟩ := c_lowestInto (few_co hl hb (M := 288) (by decide) (by decide)) (by decide) (show LX h 67 288 _ _ (sh h 7) from ⟨co1.lo67, w.c, w.1, ap⟩) W1
  obtain ⟨g3, E3, C3, O3⟩ := c_act (B := fun r k => AL 67 r k) (slot := slot) (act := act) c1 c2 c3 hs c5 T2.1 T2.2.1 T2.2.2 (fun r k z => by
    unfold AL at z
    exact ⟨by omega, by omega, crf_lo (by omega) (by omega) (by omega)⟩) W2
  exact ⟨g2, g3, ks, E2, E3, P2, C3, O3⟩
theorem Cal_read (a : Int32) : Cal (fX6_read 2 a) (fX7_read 220 a) := by
  obtain ⟨j, bj, rfl⟩ := i32_ex a
  intro h S K C M
  have co := C.co
  by_cases h3 : 0 ≤ j ∧ j ≤ 5
  · obtain ⟨n, rfl⟩ : ∃ n : Nat, j = n := ⟨j.toNat, by omega⟩
    have hn : n < 6 := by omega
    have n4 := K.2.2.2
    obtain ⟨cap, lst, c1, c2, c3, c4, c5⟩ := id C
    obtain ⟨E0, w0, F0⟩ := c_sta co
    have co6 := F0.co co
    have a64 : ∀ k, ¬ AY 67 64 k ∧ ¬ AY 67 65 k := fun k => ⟨fun z => by unfold AY at z; omega, fun z => by unfold AY at z; omega⟩
    have rt := c_readText (n := (aT S).1) (T := (aT S).2) co6 (by rw [(F0.2.2 64 0 (a64 0).1).1]; exact c5.2.1) (fun k hk => by rw [(F0.2.2 65 k (a64 k).2).1]; exact c5.2.2.2 k hk) n4 w0
    -- the reference reads, from any heap that holds the state
    have mread : ∀ h1 : xH, MSt h1 S → ∃ g, fX7_read 220 (i32 (n : Int)) h1 = fX7_read_b102 220 (i32 (n : Int)) g ∧ Mo g ∧ Fr RST (sI h1 220 0 0) g ∧ (∀ f, txtR (aT S).2 (aT S).1 = .inl f → hI g 220 37 = i32 (f : Int) ∧ hI g 220 39 = 0) ∧ (∀ s, txtR (aT S).2 (aT S).1 = .inr s → hI g 220 37 = i32 (-1) ∧ hI g 220 39 = 1 ∧ Tld g s ∧ TOk s) := by
      intro h1 M1
      have q := M1.1.1
      have q0 : Mo (sI h1 220 0 0) := (Fr.I (A := fun r _ => r = 220) _ rfl).mo q
      obtain ⟨g, E, R⟩ := m_readText (n := (aT S).1) (T := (aT S).2) (i := i32 (n : Int)) q0 (by rw [hI_sI, if_neg (by omega)]; exact M1.2.2.2.2.2.1) (fun k hk => by rw [hI_sI, if_neg (by omega)]; exact M1.2.2.2.2.2.2.2 k hk) n4
      refine ⟨g, ?_, R⟩
      unfold fX7_read
      rw [if_pos q.k220, lt_def, m_isStore bj, bd_some, decide_eq_true h3, if_neg bzt0, lt_def, lt_def, lt_def, lt_def]
      exact E
    have RF : ∀ {h1 g : xH}, Fr RST (sI h1 220 0 0) g → Fr RDM h1 (sI g 220 36 0) := fun f => ((Fr.I (A := RDM) _ (Or.inl ⟨rfl, Or.inl rfl⟩)).tr (f.mono (fun r k z => by unfold RST at z; unfold RDM; omega))).tr (Fr.I _ (Or.inl ⟨rfl, Or.inr (Or.inl ⟨by decide, by decide⟩)⟩))
    have In : ∀ {x y : xH}, Fr RDM x y → Fr In220 x y := fun f => f.mono (fun r c z => by unfold RDM at z; unfold In220; omega)
    cases er : txtR (aT S).2 (aT S).1 with
    | inl f =>
      obtain ⟨g10, E10, q1, F10⟩ := rt.1 f er
      have F15 : Fr ARd h (sI g10 64 0 0) := ((F0.mono (fun r k z => Or.inr z)).tr (F10.mono (fun r k z => by rcases z with z | z; exact Or.inl z.1; exact Or.inr z))).tr (Fr.I _ (Or.inl rfl))
      obtain ⟨C15, O15⟩ := c_rd (v := i32 (f : Int)) C F15 (by rw [hI_sI, if_pos ⟨rfl, rfl⟩]) (by rw [hI_sI, if_neg (by omega)]; exact q1)
      obtain ⟨h1, E1, C1, O1⟩ := c_ref (a := -6) C15 (by decide)
      have M1 := M.out (O15.tr O1)
      obtain ⟨g, ER, Mg, Fg, R1, _⟩ := mread h1 M1
      obtain ⟨g37, g39⟩ := R1 f er
      have M' := m_rd (v := i32 (f : Int)) K M1 (RF Fg) (by rw [hI_sI, if_pos ⟨rfl, rfl⟩]) (by rw [hI_sI, if_neg (by omega)]; exact g37)
      obtain ⟨g'', E'', M'', F''⟩ := m_ref2 (a := -6) (rd_ok K) M' (by decide)
      have co10 : Co g10 := (F0.tr (A := fun r k => AY 67 r k) (Fr.rf _)).co co |> fun z => F10.co z
      have K0 : AOk (rdA S (i32 (f : Int))) := rd_ok K
      refine ⟨i32 (-6), h1, g'', refA (rdA S (i32 (f : Int))) (-6), ?_, ?_, K0, C1.inn ((In (RF Fg)).tr F''), M''⟩
      · have E1' : fX6_refuse 2 (-6) (sI g10 64 0 0) = some (i32 (-6), h1) := E1
        unfold fX6_read
        rw [c_isStore bj, bd_some, decide_eq_true h3, if_neg bzt0, if_pos co.k2, co.r2_8, if_pos co.lo67.1, E0, bd_some, co6.r2_5, if_pos co6.k64, co6.r2_8, E10, bd_some, co10.r2_5, if_pos co10.k64, lt_def, if_pos rfl, E1', bd_some]
      · have E3' : fX7_refuse 220 (-6) (sI g 220 36 0) = some (i32 (-6), g'') := E''
        rw [ER]
        unfold fX7_read_b102
        rw [if_pos Mg.k220, lt_def, if_pos (by rw [hI_sI, if_neg (by omega)]; exact g39), E3', bd_some]
    | inr s =>
      obtain ⟨ok, g10, E10, q1, w10, F10⟩ := rt.2 s er
      have F15 : Fr ARd h (sI g10 64 0 0) := ((F0.mono (fun r k z => Or.inr z)).tr (F10.mono (fun r k z => by rcases z with z | z; exact Or.inl z.1; exact Or.inr z))).tr (Fr.I _ (Or.inl rfl))
      obtain ⟨C15, O15⟩ := c_rd (v := i32 (-1)) C F15 (by rw [hI_sI, if_pos ⟨rfl, rfl⟩]) (by rw [hI_sI, if_neg (by omega)]; exact q1)
      have f15 : Fr (fun r k => r = 64 ∧ k = 0) g10 (sI g10 64 0 0) := Fr.I _ ⟨rfl, rfl⟩
      have w15 : CLl (sI g10 64 0 0) 67 ((fulT s).map lby) := w10.fr f15 (fun r k z y => by unfold AY at z; omega)
      obtain ⟨fl, fb⟩ := ful_sb ok
      obtain ⟨g2, g3, ks, E2, E3, P3, C3, O3⟩ := c_intoS (act := 0) (slot := n) fl fb (by omega) C15 w15
      have Ck0 := ful_can ok P3
      have k12 := Ck0.1.1
      have M3 := M.out (O15.tr O3)
      obtain ⟨g, ER, Mg, Fg, _, R2⟩ := mread g3 M3
      obtain ⟨g37, g39, tl, _⟩ := R2 s er
      have K1 := rd_ok (v := i32 (-1)) K
      have M' := m_rd (v := i32 (-1)) K M3 (RF Fg) (by rw [hI_sI, if_pos ⟨rfl, rfl⟩]) (by rw [hI_sI, if_neg (by omega)]; exact g37)
      have f36 : Fr (fun r k => r = 220 ∧ k = 36) g (sI g 220 36 0) := Fr.I _ ⟨rfl, rfl⟩
      have tl' : Tld (sI g 220 36 0) s := tl.fr f36 ⟨by omega, fun r k a b => by omega⟩
      obtain ⟨g4, E4, J4, F4, fin⟩ := m_told2 (act := 0) K1 M'
      obtain ⟨g4', E4', U4, _⟩ := m_remember M'.1 K1.1.len (fun u hu => (K1.2.1 u hu).len) M'.2.1 0
      have e44 : g4 = g4' := by
        rw [E4] at E4'
        exact congrArg Prod.snd (Option.some.inj E4')
      rw [← e44] at U4
      have tl4 : Tld g4 s := tl'.fr F4 ⟨by unfold ARm; omega, fun r k a b => by unfold ARm; omega⟩
      have f19 : Fr (fun r k => r = 220 ∧ k = 19) g4 (sI g4 220 19 0) := Fr.I _ ⟨rfl, rfl⟩
      have tl8 : Tld (sI g4 220 19 0) s := tl4.fr f19 ⟨by omega, fun r k a b => by omega⟩
      have L0 : Lnl (sI g4 220 19 0) [] := ⟨by rw [hI_sI, if_pos ⟨rfl, rfl⟩]; rfl, fun k l e => by rw [List.getElem?_nil] at e; cases e⟩
      obtain ⟨h5, E5, L5, F5⟩ := m_r133 (i := i32 (n : Int)) ok (fun hh => bd (fX7_layPaper 220 hh) (fun _ g2 => bd (fX7_store 220 (i32 (n : Int)) g2) (fun _ g5 => lt (hI g5 220 4) (fun v8 => if ¬ (8 : Int32) = 0 then bd (fX7_bringPaper 220 ((((hI g5 220 18) + (hI g5 220 12)) - (1 : Int32)) - (((hI g5 220 18) + (hI g5 220 12)) - (1 : Int32)) / (8 : Int32) * (8 : Int32)) g5) (fun _ g9 => bd (fX7_tell 220 v8 g9) (fun w14 g12 => some (w14, g12))) else none)))) (fun hh r133 Mh c44 => by
        unfold fX7_read_b133
        rw [if_pos Mh.k220, c44, if_pos (Int32.le_refl _)]) (tN s) 0 FU (sI g4 220 19 0) (by omega) (by rw [FU_eq]; have := ok.1; omega) (f19.mo J4.1) tl8 L0
      have M5 := F5.mo (f19.mo J4.1)
      obtain ⟨h6, ks', E6, P6, K6, F6⟩ := m_layPaper (few_lok fl fb) M5 L5.l L5.1
      have ek : ks' = ks := paper_one P6 P3 (fun x k => Iff.rfl)
      rw [ek] at K6
      have M6 := F6.mo M5
      obtain ⟨h7, E7, R7, F7⟩ := m_store M6 K6 k12 hn
      have M7 := F7.mo M6
      have v8 : hI h7 220 4 = i32 (ks.length : Int) := by rw [(F7.2.2 220 4 (by omega)).1]; exact K6.2
      -- what the frames leave
      have F47 : Fr (fun r c => r = 222 ∧ 37 * n ≤ c ∧ c < 37 * n + 37 ∨ AI r c ∨ AP r c) g4 h7 := (((f19.mono (fun r c z => Or.inr (Or.inl (by unfold AI; omega)))).tr (F5.mono (fun r c z => Or.inr (Or.inl z)))).tr (F6.mono (fun r c z => Or.inr (Or.inr z)))).tr (F7.mono (fun r c z => Or.inl z))
      have Lsn : ∀ u ∈ (0, aC (rdA S (i32 (-1)))) :: (snL (aC (rdA S (i32 (-1)))) (aU (rdA S (i32 (-1))))).take 7, LenOk u.2 := fun u hu => by
        rcases List.mem_cons.mp hu with e0 | e0
        · rw [e0]; exact K1.1.len
        · exact (K1.2.1 u (List.mem_of_mem_take e0)).len
      have U7 := U4.fr Lsn F47 (fun r c p q => by unfold AI AP; omega) (by unfold AI AP; omega)
      obtain ⟨fu, u1, u2, u3, u4, u5⟩ := U7
      obtain ⟨len, hlen⟩ : ∃ len, len = ((0, aC (rdA S (i32 (-1)))) :: (snL (aC (rdA S (i32 (-1)))) (aU (rdA S (i32 (-1))))).take 7 : Sns).length := ⟨_, rfl⟩
      have l1 : 1 ≤ len := by rw [hlen, List.length_cons]; omega
      rw [← hlen] at u3 u4 u5
      have sn := (u5 0 (0, aC (rdA S (i32 (-1)))) rfl).1
      rw [Nat.sub_zero] at sn
      obtain ⟨h8, E8, K8, F8⟩ := m_bringP (k := (fu + len - 1) % 8) (by omega) M7 sn K1.1.len.2
      have M8 := F8.mo M7
      have F48 : Fr (fun r c => r = 222 ∨ r = 223 ∨ r = 224 ∨ AI r c ∨ AP r c) g4 h8 := (F47.mono (fun r c z => by rcases z with z | z | z; exact Or.inl z.1; exact Or.inr (Or.inr (Or.inr (Or.inl z))); exact Or.inr (Or.inr (Or.inr (Or.inr z))))).tr (F8.mono (fun r c z => by unfold AP; omega))
      have I8 : MI0 h8 (upA (aC (rdA S (i32 (-1)))) n ks) := by
        have e6 : upA (aC (rdA S (i32 (-1)))) n ks 6 = aC (rdA S (i32 (-1))) 6 := by unfold upA; rw [if_neg (by omega)]
        refine ⟨M8, fun i hi => ?_, by rw [e6]; exact K8⟩
        have o8 : ∀ c, hI h8 222 c = hI h7 222 c := fun c => (F8.2.2 222 c (by omega)).1
        unfold upA
        by_cases c : i = n
        · rw [if_pos c, c]
          refine ⟨by rw [o8]; exact R7.1, fun k hk => ?_⟩
          rw [o8, o8, o8]; exact R7.2 k hk
        · rw [if_neg c]
          have Rj := J4.2.1 i hi
          have hl := K1.1.len.1 i hi
          have o7 : ∀ c, 37 * i ≤ c → c < 37 * i + 37 → hI h8 222 c = hI g4 222 c := fun c p q => by
            rw [o8, (F47.2.2 222 c (by unfold AI AP; omega)).1]
          refine ⟨by rw [o7 _ (by omega) (by omega)]; exact Rj.1, fun k hk => ?_⟩
          rw [o7 _ (by omega) (by omega), o7 _ (by omega) (by omega), o7 _ (by omega) (by omega)]
          exact Rj.2 k hk
      obtain ⟨Mf, Ff⟩ := fin _ n ks h8 F48 (fun r c z => by unfold AI AP at z; omega) I8
      have co10 : Co g10 := F10.co co6
      have co15 : Co (sI g10 64 0 0) := f15.co co10
      refine ⟨i32 (ks.length : Int), g3, sI h8 220 1 0, actA (rdA S (i32 (-1))) 0 n ks, ?_, ?_, K1.act (K1.1.store hn Ck0), C3.inn ((In (RF Fg)).tr Ff), Mf⟩
      · have E3' : fX6_settle 2 0 (i32 (n : Int)) g2 = some (i32 (ks.length : Int), g3) := E3
        unfold fX6_read
        rw [c_isStore bj, bd_some, decide_eq_true h3, if_neg bzt0, if_pos co.k2, co.r2_8, if_pos co.lo67.1, E0, bd_some, co6.r2_5, if_pos co6.k64, co6.r2_8, E10, bd_some, co10.r2_5, if_pos co10.k64, lt_def, if_neg (by decide), co15.r2_8, if_pos co15.lo67.1, E2, bd_some, E3', bd_some]
      · have E4' : fX7_remember 220 0 (sI g 220 36 0) = some ((), g4) := E4
        have E5' : fX7_read_l133 FU 220 (i32 (n : Int)) 0 (sI g4 220 19 0) = _ := E5
        have ix8 : ((hI h7 220 18) + (hI h7 220 12)) - (1 : Int32) = i32 ((fu + len - 1 : Nat) : Int) := by
          rw [u2, u4, i32_add, one32, i32_sub]
          congr 1
          omega
        have mod := mod8c ⟨fu + len - 1, by omega⟩
        have mod : i32 ((fu + len - 1 : Nat) : Int) - i32 ((fu + len - 1 : Nat) : Int) / (8 : Int32) * (8 : Int32) = i32 (((fu + len - 1) % 8 : Nat) : Int) := mod
        rw [ER]
        unfold fX7_read_b102
        rw [if_pos Mg.k220, lt_def, if_neg (by rw [hI_sI, if_neg (by omega), g39]; decide), E4', bd_some, lt_def, lt_def, E5']
        rw [E6, bd_some, E7, bd_some, lt_def, if_pos (by decide), ix8, mod, E8, bd_some, v8, m_tell M8, bd_some]
  · refine ref_cal K C M (a := -2) (by decide) ?_ (fun g q => ?_)
    · unfold fX6_read
      rw [c_isStore bj, bd_some, decide_eq_false h3, if_pos bz_f, if_pos co.k2, m2_32]
    · unfold fX7_read
      rw [if_pos q.k220, lt_def, m_isStore bj, bd_some, decide_eq_false h3, if_pos bz_f, m2_32]
end RD
