/-! THE CLASS' lowestInto, its loop -/
theorem lt_cast {a b : Int} (h : a < b) : (a : Rat) < (b : Rat) := Rat.intCast_lt_intCast.mpr h
section CI
variable {MA MB MC X NP NQ : Int} {L : Nat → Ln} {n M r s : Nat}
theorem nx_in {x N : Int} (bF : ∀ k, k < n → (-X ≤ lnF (L k) ∧ lnF (L k) ≤ X) ∧ (-X ≤ lnT (L k) ∧ lnT (L k) ≤ X) ∧ lnF (L k) ≤ lnT (L k)) (I : NxI L n x N) : N = 2147483647 ∨ ((-X ≤ N ∧ N ≤ X) ∧ x < N ∧ N ∈ evs L n) := by
  rcases I.2 with e | ⟨m, hm, h1 | h1⟩
  · exact Or.inl e
  · right
    have b := bF m hm
    refine ⟨by omega, by omega, ?_⟩
    rw [h1.1]
    exact List.mem_append_left _ (List.mem_map.mpr ⟨m, List.mem_range.mpr hm, rfl⟩)
  · right
    have b := bF m hm
    refine ⟨by omega, by omega, ?_⟩
    rw [h1.1]
    exact List.mem_append_right _ (List.mem_map.mpr ⟨m, List.mem_range.mpr hm, rfl⟩)
theorem gap_no {x N : Int} (nev : NoEv L n x N) (hno : ∀ o, ¬ Vs L n x o) : (∀ z k, (x : Rat) < z → z < (N : Rat) → KA L n z k → k = []) ∧ Sd L n true N none := by
  have hc : ∀ m, m < n → (N : Rat) ≤ (lnF (L m) : Rat) ∨ (lnT (L m) : Rat) ≤ (x : Rat) := by
    intro m hm
    have a := nev.2 m hm
    have b := hno m
    unfold Vs at b
    rcases a.1 with y | y
    · right
      apply Classical.byContradiction
      intro z
      exact b ⟨hm, y, by grind⟩
    · exact Or.inl y
  constructor
  · intro z k h1 h2 hk
    exact KA_none (fun m hm => by rcases hc m hm with y | y; left; grind; right; grind) hk
  · refine Sd_no (fun k hk z => ?_)
    have h0 := nev.1
    unfold lv bey at z
    simp at z
    rcases hc k hk with y | y <;> grind
theorem c_in12 (co : CO MA MB MC X NP NQ L n M) : ∀ (d k m : Nat) (h : xH) (cap : Nat) (ks : List Kn) (x bl : Int), k + d = 2 * n + 1 → d < m → LX h r M L n s → ShK h s cap ks → HeadI X L n x bl k → PreU L n x ks → ∃ h' cap' ks', fX1_lowestInto_l12 m r s (i32 bl) (i32 x) (i32 k) h = some ((), h') ∧ ShK h' s cap' ks' ∧ PaperIs L n ks' ∧ TSt r h h' s cap cap' := by
  intro d
  obtain ⟨kk, hn, hM, bL, hC, bF, hX, hNP, hNQ, hQ1, xb, hB⟩ := id co
  have leave : ∀ (k m : Nat) (h : xH) (cap : Nat) (ks : List Kn) (bl : Int), k ≤ 2 * n + 1 → LX h r M L n s → ShK h s cap ks → PreU L n (2147483647 : Int) ks → ∃ h' cap' ks', fX1_lowestInto_l12 (m + 1) r s (i32 bl) (i32 2147483647) (i32 k) h = some ((), h') ∧ ShK h' s cap' ks' ∧ PaperIs L n ks' ∧ TSt r h h' s cap cap' := by
    intro k m h cap ks bl hk lx W P
    refine ⟨h, cap, ks, ?_, W, P.done (fun z k2 hz hk2 => KA_none (fun j hj => Or.inr ?_) hk2), (SSt.rf h s cap).t⟩
    · show fX1_lowestInto_b12 _ _ _ _ _ _ _ = _
      unfold fX1_lowestInto_b12
      rw [if_pos lx.1.1, lx.2.2.1, two32, i32_mul]
      split
      · rfl
      · rw [if_pos (show i32 2147483647 = (2147483647 : Int32) from rfl)]
    · have b := (bF j hj).2.1.2
      have c : (lnT (L j) : Rat) < ((2147483647 : Int) : Rat) := lt_cast (show lnT (L j) < 2147483647 by omega)
      grind
  induction d with
  | zero =>
    intro k m h cap ks x bl hk hm lx W H P
    obtain ⟨m, rfl⟩ : ∃ k, m = k + 1 := ⟨m - 1, by omega⟩
    rcases H with e | H
    · subst e; exact leave k m h cap ks bl (by omega) lx W P
    · have := H.1; omega
  | succ d ih =>
    intro k m h cap ks x bl hk hm lx W H P
    obtain ⟨m, rfl⟩ : ∃ k, m = k + 1 := ⟨m - 1, by omega⟩
    rcases H with e | ⟨hmu, hxx, il, hbl, hsd⟩
    · subst e; exact leave k m h cap ks bl (by omega) lx W P
    · have Bx : B32 x := by rcases hxx with e | e; rw [e]; exact ⟨by decide, by decide⟩; exact ⟨by omega, by omega⟩
      have hxM : x ≠ 2147483647 := by rcases hxx with e | e <;> omega
      obtain ⟨h1, ls, b8, N, E1, I, hl, hls, c8, l8, c9, l9, F1⟩ := c_lookAt kk hn hM bL (fun j hj => by have := bF j hj; exact ⟨⟨⟨by omega, by omega⟩, ⟨by omega, by omega⟩⟩, this.1, this.2.2⟩) Bx lx.1 lx.2.1 lx.2.2.1
      have hls2 : ∀ o, o ∈ ls ↔ Vs L n x o := by
        intro o
        rw [hls o]
        unfold Vs
        constructor
        · intro z; exact ⟨z.1, by exact_mod_cast z.2.1, by exact_mod_cast z.2.2⟩
        · intro z; exact ⟨z.1, by exact_mod_cast z.2.1, by exact_mod_cast z.2.2⟩
      have lx1 : LX h1 r M L n s := ⟨F1.lo lx.1, lx.2.1.fr F1 (fun j k a b => AL_no a b), by rw [(F1.2.2 r 0 (by unfold AL; omega)).1]; exact lx.2.2.1, lx.2.2.2.fr F1⟩
      have W1 : ShK h1 s cap ks := W.fr F1 lx.2.2.2.al
      have hxl : ∀ o, (lnF (L o) ≤ x ∧ x ≤ lnT (L o)) → o < n → -X ≤ x ∧ x ≤ X := fun o z ho => by have := bF o ho; omega
      obtain ⟨br, E2, l2⟩ := c_lowestLive kk lx1.1 lx1.2.1 hn hM bL I hl (fun o ho => ((hls o).mp ho).1) (x := x) (fun hne => by
        obtain ⟨o, ho⟩ := List.exists_mem_of_ne_nil ls hne
        have := (hls o).mp ho
        exact hxl o ⟨this.2.1, by omega⟩ this.1)
      obtain ⟨ir, sr, alt⟩ := lw_sd hls2 l2
      obtain ⟨i8, s8⟩ := lo_sp l8
      have hx3 : 0 ≤ bl ∨ 0 ≤ br ∨ 0 ≤ b8 → -X ≤ x ∧ x ≤ X := by
        rintro (z | z | z)
        · exact hbl z
        · rcases l2 with ⟨e, _⟩ | ⟨o, e, ho, _⟩
          · omega
          · have := (hls o).mp ho
            exact hxl o ⟨this.2.1, by omega⟩ this.1
        · rcases l8 with ⟨e, _⟩ | ⟨o, e, ho, h2, _⟩
          · omega
          · exact hxl o ⟨by have := h2.1; omega, by have := h2.2; omega⟩ ho
      have ka : KA L n x (kno x (oL L x bl) (oL L x br) ((oL L x b8).map (fun w => w.1))) := ⟨_, _, _, hsd, sr, s8, rfl⟩
      have u1 := P.here ka
      have hlen := u1.len hB
      rw [List.length_append] at hlen
      obtain ⟨h2, cap2, E3, W2, T2⟩ := c_meetAt kk lx1.1 lx1.2.1 hn hM bL hC lx1.2.2.2 W1 il ir i8 c8 hx3 hlen
      have lx2 := lx1.st T2
      have I2 := I.st lx1.1 lx1.2.2.2 T2
      have c92 : hI h2 r 9 = i32 N := by rw [st_0 lx1.1 lx1.2.2.2 T2 9]; exact c9
      have nin := nx_in bF l9
      have hxN : x < N := by rcases nin with e | e; have := Bx.2; omega; exact e.2.1
      have BN : B32 N := by rcases nin with e | e; rw [e]; exact ⟨by decide, by decide⟩; exact ⟨by omega, by omega⟩
      have nev := nx_noev bF hxN l9
      have fin : ∃ h3 cap3 ks3 o3, fX1_follow r s (i32 br) h2 = some (i32 o3, h3) ∧ ShK h3 s cap3 ks3 ∧ SSt h2 h3 s cap2 cap3 ∧ PreU L n N ks3 ∧ Ixn n o3 ∧ Sd L n true N (oL L N o3) ∧ (0 ≤ o3 → -X ≤ N ∧ N ≤ X) := by
        unfold fX1_follow
        rw [lt_def, show (0 : Int32) = i32 ((0 : Nat) : Int) from rfl]
        rcases alt with ⟨e, el⟩ | ⟨o, e, wz⟩
        · have hno : ∀ o, ¬ Vs L n x o := fun o z => by have := (hls2 o).mpr z; rw [el] at this; cases this
          have g := gap_no nev hno
          refine ⟨h2, cap2, _, -1, ?_, W2, SSt.rf h2 s cap2, u1.pre nev.1 g.1, Or.inl rfl, g.2, fun z => by omega⟩
          rw [FU_eq]
          show fX1_follow_b5 _ _ _ _ _ _ = _
          unfold fX1_follow_b5
          rw [if_pos lx2.1.1, I2.1, el, if_pos (show i32 (([] : List Nat).length : Nat) ≤ i32 ((0 : Nat) : Int) by decide), e]
        · have ho := (hls2 o).mpr wz.1
          have hf := flt_lt (l := ls) (p := fun _ => true) (p' := fun j => decide (sl (L j) < sl (L o))) (fun _ _ _ => rfl) ⟨o, ho, rfl, by simp⟩
          rw [show ls.filter (fun _ => true) = ls from List.filter_eq_self.mpr (fun _ _ => rfl)] at hf
          obtain ⟨h3, cap3, ks3, z1, o3, E4, W3, T3, w3, r2, r3, u3, r5⟩ := c_fol5 co hl hls2 nev BN ls.length 0 FU h2 cap2 _ x o (by omega) (by rw [FU_eq]; omega) lx2 I2 c92 W2 wz (by grind) nev.1 u1 (by omega)
          have lw := fol_end nev w3 r2 r3 r5
          refine ⟨h3, cap3, ks3, o3, by rw [e]; exact E4, W3, T3, ?_, Or.inr ⟨o3, rfl, w3.1.1⟩, by rw [oL_at]; exact LwW_Sd lw, fun _ => ?_⟩
          · exact u3.pre r3 (fun z k2 a1 a2 a3 => fol_mid nev w3 r2 a1 a2 (by grind) r5 a3)
          · rcases nin with y | y
            · exfalso
              have q := (nev.2 o wz.1.1).2
              have q2 := wz.1.2.2
              have b := (bF o wz.1.1).2.1.2
              have c : (lnT (L o) : Rat) < ((2147483647 : Int) : Rat) := lt_cast (show lnT (L o) < 2147483647 by omega)
              rw [y] at q
              grind
            · exact y.1
      obtain ⟨h3, cap3, ks3, o3, E4, W3, T3, P3, i3, s3, b3⟩ := fin
      have lx3 := lx2.st T3
      have hd : HeadI X L n N o3 (k + 1) := by
        rcases nin with e | e
        · exact Or.inl e
        · refine Or.inr ⟨?_, Or.inr e.1, i3, b3, s3⟩
          have := muv_lt e.2.1 e.2.2
          omega
      obtain ⟨h4, cap4, ks4, E5, W4, P4, T4⟩ := ih (k + 1) m h3 cap3 ks3 N o3 (by omega) (by omega) lx3 W3 hd P3
      refine ⟨h4, cap4, ks4, ?_, W4, P4, (F1.t s cap).tr (T2.t.tr (T3.t.tr T4))⟩
      show fX1_lowestInto_b12 _ _ _ _ _ _ _ = _
      unfold fX1_lowestInto_b12
      rw [if_pos lx.1.1, lx.2.2.1, two32, i32_mul, if_neg (fun z => by have := (i32_lt ⟨by omega, by omega⟩ ⟨by omega, by omega⟩).mp z; omega), if_neg (show ¬ i32 x = (2147483647 : Int32) from fun z => hxM ((i32_eq Bx (b := 2147483647) ⟨by decide, by decide⟩).mp z)), E1, bd_some, E2, bd_some, E3, bd_some, E4, bd_some]
      simp only [lt_def]
      rw [st_0 lx2.1 lx2.2.2.2 T3 9, c92, one32, i32_add]
      exact E5
theorem c_lowestInto (co : CO MA MB MC X NP NQ L n M) (hM2 : M ≤ 40000) {h : xH} {cap : Nat} {ks : List Kn} (lx : LX h r M L n s) (W : ShK h s cap ks) : ∃ h' cap' ks', fX1_lowestInto r s h = some ((), h') ∧ ShK h' s cap' ks' ∧ PaperIs L n ks' ∧ TSt r h h' s cap cap' := by
  have f : Fr (AX h s) h (sI h s 0 0) := Fr.I _ (Or.inl rfl)
  have T0 : SSt h (sI h s 0 0) s cap cap := ⟨Rm.same rfl cap, fun j _ _ => Or.inl rfl, f.gr⟩
  have n5 : hR h s 5 ≠ s := fun z => by have := W.1.2.2.1.1; rw [z, W.1.1] at this; omega
  have W0 : ShK (sI h s 0 0) s cap [] := ⟨W.1.fr f, ⟨by rw [hI_sI, if_pos ⟨rfl, rfl⟩]; rfl, fun i k e => by simp at e⟩, by simp, W.2.2.2⟩
  obtain ⟨kk, hn, hM, bL, hC, bF, hX, -⟩ := id co
  have far : ∀ j, j < n → -2147483648 < lnF (L j) ∧ lnF (L j) ≤ lnT (L j) := fun j hj => by have := bF j hj; omega
  have hd : HeadI X L n (-2147483648) (-1) 0 := by
    refine Or.inr ⟨muv_le L n _, Or.inl rfl, Or.inl rfl, fun z => by omega, ?_⟩
    rw [oL_no]
    refine Sd_no (fun k hk z => ?_)
    have h0 := (far k hk).1
    have h1 : ((-2147483648 : Int) : Rat) < (lnF (L k) : Rat) := lt_cast h0
    unfold lv bey at z
    simp only [if_true] at z
    grind
  have P0 : PreU L n ((-2147483648 : Int) : Rat) [] := PreU.nil (fun z k hz hk => KA_none (fun j hj => Or.inl (by
    have h0 := (far j hj).1
    have h1 : ((-2147483648 : Int) : Rat) < (lnF (L j) : Rat) := lt_cast h0
    grind)) hk)
  obtain ⟨h', cap', ks', E, W1, P1, T1⟩ := c_in12 co (2 * n + 1) 0 FU (sI h s 0 0) cap [] (-2147483648) (-1) (by omega) (by rw [FU_eq]; omega) (lx.st T0) W0 hd P0
  refine ⟨h', cap', ks', ?_, W1, P1, T0.t.tr T1⟩
  unfold fX1_lowestInto fX4_wipe
  rw [if_pos W.1.1, if_pos W.1.1]
  simp only [lt_def, bd_some]
  exact E
end CI
