/-! THE REFERENCE'S laySpans, linesOf -/
section MS
variable {i : Nat} {ks : List Kn}
theorem m_ls7 {a : Nat} (ha : a = 0 ∨ a = 48) (hi : i < 6) (h12 : ks.length ≤ 12) (F : StF ks) : ∀ (d k m : Nat) (h : xH), k + d = ks.length → d < m → Mo h → Rwi h i ks → Ens h a ((List.range k).filterMap (spO ks)) → hI h 220 26 = i32 ((List.range k).filterMap (spO ks)).length → ∃ h', fX7_laySpans_l7 m 220 (i32 i) (i32 a) (i32 k) h = some ((), h') ∧ Ens h' a (spL ks) ∧ hI h' 220 26 = i32 (spL ks).length ∧ Fr (AE a) h h' := by
  have nA : ∀ k, ¬ AE a 222 k := fun k z => by unfold AE at z; omega
  intro d
  induction d with
  | zero =>
    intro k m h hk hm q R E c
    obtain ⟨m, rfl⟩ : ∃ k, m = k + 1 := ⟨m - 1, by omega⟩
    have ek : k = ks.length := by omega
    refine ⟨h, ?_, by unfold spL; rw [← ek]; exact E, by unfold spL; rw [← ek]; exact c, Fr.rf h⟩
    show fX7_laySpans_b7 _ _ _ _ _ _ = _
    unfold fX7_laySpans_b7
    rw [if_pos q.k220, m_many q hi R, bd_some, if_pos ((i32_le ⟨by omega, by omega⟩ ⟨by omega, by omega⟩).mpr (by omega))]
  | succ d ih =>
    intro k m h hk hm q R E c
    obtain ⟨m, rfl⟩ : ∃ k, m = k + 1 := ⟨m - 1, by omega⟩
    have hkl : k < ks.length := by omega
    have hlen := fm_len (spO ks) k
    show ∃ h', fX7_laySpans_b7 _ _ _ _ _ _ = _ ∧ _
    unfold fX7_laySpans_b7
    rw [if_pos q.k220, m_many q hi R, bd_some, if_neg (fun z => by have := (i32_le ⟨by omega, by omega⟩ ⟨by omega, by omega⟩).mp z; omega), m_isLone q hi h12 R hkl, bd_some]
    have push : ∀ o : Nat, o < ks.length → spO ks k = some (kx ks k, ky ks k, kx ks o, ky ks o) → ∃ h', fX7_laySpans_b50 (fX7_laySpans_l7 m) (i32 o) 220 (i32 i) (i32 a) (i32 k) h = some ((), h') ∧ Ens h' a (spL ks) ∧ hI h' 220 26 = i32 (spL ks).length ∧ Fr (AE a) h h' := by
      intro o ho e
      obtain ⟨h1, E1, A1, C1, F1⟩ := m_ls50 ha q hi h12 R E c (by omega) hkl ho (fX7_laySpans_l7 m)
      have es : (List.range (k + 1)).filterMap (spO ks) = (List.range k).filterMap (spO ks) ++ [(kx ks k, ky ks k, kx ks o, ky ks o)] := by rw [fm_succ, e]; rfl
      obtain ⟨h2, E2, A2, C2, F2⟩ := ih (k + 1) m h1 (by omega) (by omega) (F1.mo q) (R.fr F1 nA) (by rw [es]; exact A1) (by rw [es, List.length_append]; exact C1)
      exact ⟨h2, by rw [E1]; exact E2, A2, C2, F1.tr F2⟩
    cases cg : kg ks k
    · cases cl : (decide (k = 0) || !(kg ks (k - 1)))
      · have eb : bz (!false && false) = 0 := rfl
        rw [if_pos eb, m_goes q hi h12 R hkl, bd_some, cg, if_pos bz_f]
        have es : spO ks k = none := by
          unfold spO
          rw [if_neg (by rw [cg]; decide), if_neg]
          rintro (z | z)
          · rw [z] at cl; simp at cl
          · rw [z] at cl; simp at cl
        have es2 : (List.range (k + 1)).filterMap (spO ks) = (List.range k).filterMap (spO ks) := by rw [fm_succ, es]; simp
        obtain ⟨h2, E2, A2, C2, F2⟩ := ih (k + 1) m h (by omega) (by omega) q R (by rw [es2]; exact E) (by rw [es2]; exact c)
        refine ⟨h2, ?_, A2, C2, F2⟩
        unfold fX7_laySpans_b132
        rw [lt_def, one32, i32_add]
        exact E2
      · have eb : ¬ bz (!false && true) = 0 := by decide
        rw [if_neg eb]
        unfold fX7_laySpans_b38
        rw [if_neg eb]
        refine push k hkl ?_
        unfold spO
        rw [if_neg (by rw [cg]; decide), if_pos]
        by_cases c0 : k = 0
        · exact Or.inl c0
        · right
          cases hh : kg ks (k - 1)
          · rfl
          · rw [hh] at cl; simp [c0] at cl
    · have eb : bz (!true && (decide (k = 0) || !(kg ks (k - 1)))) = 0 := rfl
      rw [if_pos eb, m_goes q hi h12 R hkl, bd_some, cg, if_neg bzt0]
      unfold fX7_laySpans_b38
      rw [if_pos eb, one32, i32_add, show (k : Int) + 1 = ((k + 1 : Nat) : Int) from rfl]
      refine push (k + 1) (F.2 k hkl cg).1 ?_
      unfold spO
      rw [if_pos cg]
theorem m_laySpans {a : Nat} (ha : a = 0 ∨ a = 48) (hi : i < 6) (h12 : ks.length ≤ 12) (F : StF ks) {h : xH} (q : Mo h) (R : Rwi h i ks) : ∃ h', fX7_laySpans 220 (i32 i) (i32 a) h = some ((), h') ∧ Ens h' a (spL ks) ∧ hI h' 220 26 = i32 (spL ks).length ∧ Fr (AE a) h h' := by
  have f : Fr (AE a) h (sI h 220 26 0) := Fr.I _ (Or.inr ⟨rfl, rfl⟩)
  obtain ⟨h', E, A, C, F1⟩ := m_ls7 ha hi h12 F ks.length 0 FU (sI h 220 26 0) (by omega) (by rw [FU_eq]; omega) (f.mo q) (R.fr f (fun k z => by unfold AE at z; omega)) (fun j p e => by simp at e) (by rw [hI_sI, if_pos ⟨rfl, rfl⟩]; rfl)
  refine ⟨h', ?_, A, C, f.tr F1⟩
  unfold fX7_laySpans
  rw [if_pos q.k220, lt_def, lt_def]
  exact E
theorem sp_b32 {ks : List Kn} (P : StP ks) (F : StF ks) : ∀ p ∈ spL ks, (-5940 ≤ p.1 ∧ p.1 ≤ 5940) ∧ (-5940 ≤ p.2.1 ∧ p.2.1 ≤ 5940) ∧ (-5940 ≤ p.2.2.1 ∧ p.2.2.1 ≤ 5940) ∧ (-5940 ≤ p.2.2.2 ∧ p.2.2.2 ≤ 5940) ∧ p.1 ≤ p.2.2.1 := by
  intro p hp
  unfold spL at hp
  obtain ⟨k, hk, e⟩ := List.mem_filterMap.mp hp
  have hkl := List.mem_range.mp hk
  have b := P.b hkl
  unfold spO at e
  split at e
  · rename_i c
    have f := F.2 k hkl c
    have b2 := P.b f.1
    rw [← Option.some.inj e]
    exact ⟨b.1, b.2, b2.1, b2.2, by show kx ks k ≤ kx ks (k + 1); omega⟩
  · split at e
    · rw [← Option.some.inj e]
      exact ⟨b.1, b.2, b.1, b.2, by show kx ks k ≤ kx ks k; omega⟩
    · cases e
def AQ (r k : Nat) : Prop := AE 0 r k ∨ AI r k
theorem AI_en (k : Nat) : ¬ AI 240 k := by unfold AI; omega
theorem Ens.fr {A : Nat → Nat → Prop} {h h' : xH} {a : Nat} {sp : List Spn} (E : Ens h a sp) (f : Fr A h h') (hA : ∀ k, ¬ A 240 k) : Ens h' a sp := by
  intro j p e
  rw [(f.2.2 240 _ (hA _)).1, (f.2.2 240 _ (hA _)).1, (f.2.2 240 _ (hA _)).1, (f.2.2 240 _ (hA _)).1]
  exact E j p e
theorem m_lo8 {sp : List Spn} (hsp : ∀ p ∈ sp, B32 p.1 ∧ B32 p.2.1 ∧ B32 p.2.2.1 ∧ B32 p.2.2.2) (hs : sp.length ≤ 12) : ∀ (d k m : Nat) (h : xH) (ll : List Ln), k + d = sp.length → d < m → Mo h → Ens h 0 sp → hI h 220 26 = i32 sp.length → Lnl h ll → ll.length + d ≤ 700 → ∃ h', fX7_linesOf_l8 m 220 (i32 k) h = some ((), h') ∧ Lnl h' (ll ++ (sp.drop k).map lby) ∧ Fr AI h h' := by
  intro d
  induction d with
  | zero =>
    intro k m h ll hk hm q E c w hl
    obtain ⟨m, rfl⟩ : ∃ k, m = k + 1 := ⟨m - 1, by omega⟩
    refine ⟨h, ?_, by rw [List.drop_eq_nil_of_le (by omega)]; simpa using w, Fr.rf h⟩
    show fX7_linesOf_b8 _ _ _ _ = _
    unfold fX7_linesOf_b8
    rw [if_pos q.k220, c, if_pos ((i32_le ⟨by omega, by omega⟩ ⟨by omega, by omega⟩).mpr (by omega))]
  | succ d ih =>
    intro k m h ll hk hm q E c w hl
    obtain ⟨m, rfl⟩ : ∃ k, m = k + 1 := ⟨m - 1, by omega⟩
    have hkl : k < sp.length := by omega
    have hg : sp[k]? = some sp[k] := List.getElem?_eq_getElem hkl
    have b := hsp sp[k] (List.getElem_mem _)
    have v := E k _ hg
    obtain ⟨h1, E1, A1, F1⟩ := m_lineBy q w (by omega) (x1 := sp[k].1) (y1 := sp[k].2.1) (x2 := sp[k].2.2.1) (y2 := sp[k].2.2.2) b.1 b.2.2.1
    obtain ⟨h2, E2, A2, F2⟩ := ih (k + 1) m h1 _ (by omega) (by omega) (F1.mo q) (E.fr F1 AI_en) (by rw [(F1.2.2 220 26 (by unfold AI; omega)).1]; exact c) A1 (by rw [List.length_append]; show ll.length + 1 + d ≤ 700; omega)
    refine ⟨h2, ?_, ?_, F1.tr F2⟩
    · show fX7_linesOf_b8 _ _ _ _ = _
      unfold fX7_linesOf_b8
      have e0 : (i32 (4 * (k : Int))).toNatClampNeg = 0 + 4 * k := by rw [i32_nat (by omega) (by omega)]; omega
      have e1 : (i32 (4 * (k : Int) + 1)).toNatClampNeg = 0 + 4 * k + 1 := by rw [i32_nat (by omega) (by omega)]; omega
      have e2 : (i32 (4 * (k : Int) + 2)).toNatClampNeg = 0 + 4 * k + 2 := by rw [i32_nat (by omega) (by omega)]; omega
      have e3 : (i32 (4 * (k : Int) + 3)).toNatClampNeg = 0 + 4 * k + 3 := by rw [i32_nat (by omega) (by omega)]; omega
      have x0 : ix (i32 (4 * (k : Int))) 96 := ix_i (by omega) (by omega) (by decide)
      have x1 : ix (i32 (4 * (k : Int) + 1)) 96 := ix_i (by omega) (by omega) (by decide)
      have x2 : ix (i32 (4 * (k : Int) + 2)) 96 := ix_i (by omega) (by omega) (by decide)
      have x3 : ix (i32 (4 * (k : Int) + 3)) 96 := ix_i (by omega) (by omega) (by decide)
      rw [if_pos q.k220, c, if_neg (fun z => by have := (i32_le ⟨by omega, by omega⟩ ⟨by omega, by omega⟩).mp z; omega)]
      simp only [lt_def, q.r25, q.k240, q.l240, fou32, one32, two32, thr32, i32_mul, i32_add, if_pos x0, if_pos x1, if_pos x2, if_pos x3, e0, e1, e2, e3, v.1, v.2.1, v.2.2.1, v.2.2.2, i64_of32 b.1, i64_of32 b.2.1, i64_of32 b.2.2.1, i64_of32 b.2.2.2, E1, bd_some, reduceIte]
      exact E2
    · rw [List.drop_eq_getElem_cons hkl, List.map_cons]
      rw [List.append_assoc] at A2
      exact A2
theorem m_linesOf (hi : i < 6) (O : StO ks) {h : xH} {ll : List Ln} (q : Mo h) (R : Rwi h i ks) (w : Lnl h ll) (hl : ll.length + 12 ≤ 700) : ∃ h', fX7_linesOf 220 (i32 i) h = some ((), h') ∧ Lnl h' (ll ++ (spL ks).map lby) ∧ Fr AQ h h' := by
  obtain ⟨h12, P, F⟩ := O
  obtain ⟨h1, E1, A1, C1, F1⟩ := m_laySpans (a := 0) (Or.inl rfl) hi h12 F q R
  have hs : (spL ks).length ≤ 12 := by have := fm_len (spO ks) ks.length; unfold spL; omega
  have w1 : Lnl h1 ll := by
    refine ⟨by rw [(F1.2.2 220 19 (by unfold AE; omega)).1]; exact w.1, fun k l e => ?_⟩
    rw [(F1.2.2 235 _ (by unfold AE; omega)).1, (F1.2.2 236 _ (by unfold AE; omega)).1, (F1.2.2 237 _ (by unfold AE; omega)).2, (F1.2.2 238 _ (by unfold AE; omega)).2, (F1.2.2 239 _ (by unfold AE; omega)).2]
    exact w.2 k l e
  obtain ⟨h2, E2, A2, F2⟩ := m_lo8 (fun p hp => by have := sp_b32 P F p hp; exact ⟨⟨by omega, by omega⟩, ⟨by omega, by omega⟩, ⟨by omega, by omega⟩, ⟨by omega, by omega⟩⟩) hs (spL ks).length 0 FU h1 ll (by omega) (by rw [FU_eq]; omega) (F1.mo q) A1 C1 w1 (by omega)
  refine ⟨h2, ?_, by simpa using A2, (F1.mono (fun _ _ z => Or.inl z)).tr (F2.mono (fun _ _ z => Or.inr z))⟩
  unfold fX7_linesOf
  rw [if_pos q.k220]
  have E1' : fX7_laySpans 220 (i32 i) 0 h = some ((), h1) := E1
  rw [E1', bd_some, lt_def]
  exact E2
end MS
