/-! THE REFERENCE'S layPaper: PaperIs -/
def layN (L : Nat → Ln) : Nat → List Pie
  | 0 => []
  | k + 1 => if lnT (L k) ≤ lnF (L k) then layN L k else (underN L k (layN L k)).reverse
theorem env_skip {L : Nat → Ln} {k : Nat} {ps : List Pie} (hc : lnT (L k) ≤ lnF (L k)) (h : EnvN L k ps) : EnvN L (k + 1) ps := by
  refine ⟨h.1, fun sd x o => (h.2 sd x o).trans (Low_no ?_).symm⟩
  intro z
  exact z.2 (bey_mono (by exact_mod_cast hc) z.1)
theorem layN_env (L : Nat → Ln) : ∀ k, EnvN L k (layN L k)
  | 0 => ⟨⟨(fun q hq => by cases hq), List.Pairwise.nil, List.Pairwise.nil⟩, fun sd x o => ⟨(fun z => by obtain ⟨q, hq, _⟩ := z; cases hq), (fun z => by have := z.1; omega)⟩⟩
  | k + 1 => by
    unfold layN
    by_cases c : lnT (L k) ≤ lnF (L k)
    · rw [if_pos c]; exact env_skip c (layN_env L k)
    · rw [if_neg c]; exact underN_env (by omega) (layN_env L k)
theorem KA_ex (L : Nat → Ln) (n : Nat) (x : Rat) : ∃ k, KA L n x k := by
  have key : ∀ sd, ∃ a, Sd L n sd x a := by
    intro sd
    by_cases z : ∃ o, Low L n sd x o
    · obtain ⟨o, ho⟩ := z
      exact ⟨some (vl (L o) x, sl (L o)), o, ho, rfl⟩
    · exact ⟨none, fun o ho => z ⟨o, ho⟩⟩
  obtain ⟨a, ha⟩ := key true
  obtain ⟨b, hb⟩ := key false
  obtain ⟨c, hc⟩ := Sp_ex L x n
  exact ⟨kno x a b c, a, b, c, ha, hb, hc, rfl⟩
noncomputable def KAf (L : Nat → Ln) (n : Nat) (x : Rat) : List Kn := Classical.choose (KA_ex L n x)
theorem KAf_is (L : Nat → Ln) (n : Nat) (x : Rat) : KA L n x (KAf L n x) := Classical.choose_spec (KA_ex L n x)
def AP (r k : Nat) : Prop := r = 223 ∨ r = 224 ∨ r = 241 ∨ r = 242 ∨ r = 243 ∨ (r = 220 ∧ (k = 4 ∨ k = 27 ∨ k = 30 ∨ k = 31))
theorem AK_AP (r k : Nat) (h : AK r k) : AP r k := by unfold AK at h; unfold AP; omega
theorem AB_AP (r k : Nat) (h : AB r k) : AP r k := by unfold AB at h; unfold AP; omega
theorem AU_AP (r k : Nat) (h : AU r k) : AP r k := by unfold AU at h; unfold AP; omega
theorem AU_ln (r k : Nat) (h1 : 235 ≤ r) (h2 : r < 240) : ¬ AU r k := by unfold AU; omega
section LP
variable {MA MB MC NP NQ : Int} {L : Nat → Ln} {n : Nat} {ps : List Pie}
/-- what is known of the lines -/
def LOk (MA MB MC NP NQ : Int) (L : Nat → Ln) (n : Nat) : Prop := Kon MA MB MC NP NQ ∧ n ≤ 700 ∧ MB * MC ≤ 4611686018427387904 ∧ (∀ k, k < n → LBd MA MB MC (L k)) ∧ (∀ k, k < n → B32 (lnF (L k)) ∧ B32 (lnT (L k)) ∧ Pt NP NQ (lnF (L k)) ∧ Pt NP NQ (lnT (L k))) ∧ (∀ l o, o < l → l < n → (∃ sd x, lv L sd x l ∧ lv L sd x o) → XB NP NQ (L l) (L o)) ∧ (∀ k ps, k ≤ n → EnvN L k ps → 2 * ps.length + n ≤ 4000) ∧ ∀ ks, PaperIs L n ks → ks.length ≤ 1600
theorem m_lp52 (lo : LOk MA MB MC NP NQ L n) (env : EnvN L n ps) (pb : PB NP NQ ps) {bs : List Rat} (hbs : ∀ x ∈ bs, ∃ m, m < n ∧ cov L x m) (hK : (bs.flatMap (KAf L n)).length ≤ 1600) (hl : bs.length ≤ 4000) : ∀ (d k m : Nat) (h : xH), k + d = bs.length → d < m → Bk NP NQ h bs → Lns h L n → hI h 220 19 = i32 n → Row5 h 241 ps.reverse → hI h 220 27 = i32 ps.length → Kp h ((bs.take k).flatMap (KAf L n)) → ∃ h', fX7_layPaper_l52 m 220 (i32 k) h = some ((), h') ∧ Kp h' (bs.flatMap (KAf L n)) ∧ Fr AK h h' := by
  have hps := lo.2.2.2.2.2.2.1 n ps (Nat.le_refl _) env
  intro d
  induction d with
  | zero =>
    intro k m h hk hm q w c R c2 K
    obtain ⟨m, rfl⟩ : ∃ k, m = k + 1 := ⟨m - 1, by omega⟩
    rw [List.take_of_length_le (by omega)] at K
    refine ⟨h, ?_, K, Fr.rf h⟩
    show fX7_layPaper_b52 _ _ _ _ = _
    unfold fX7_layPaper_b52
    rw [if_pos q.1.k220, q.2.2.1, if_pos ((i32_le ⟨by omega, by omega⟩ ⟨by omega, by omega⟩).mpr (by omega))]
  | succ d ih =>
    intro k m h hk hm q w c R c2 K
    obtain ⟨m, rfl⟩ : ∃ k, m = k + 1 := ⟨m - 1, by omega⟩
    have hkl : k < bs.length := by omega
    have hg : bs[k]? = some bs[k] := List.getElem?_eq_getElem hkl
    have hmem : bs[k] ∈ bs := List.getElem_mem _
    have hp := q.2.2.2.1 bs[k] hmem
    have r2 := q.2.1 k _ hg
    have hcv := hbs _ hmem
    have tk : (bs.take (k + 1)).flatMap (KAf L n) = (bs.take k).flatMap (KAf L n) ++ KAf L n bs[k] := by
      rw [List.take_succ, hg, List.flatMap_append]; simp
    have hlen : ((bs.take (k + 1)).flatMap (KAf L n)).length ≤ 1600 := by
      have e : bs.flatMap (KAf L n) = (bs.take (k + 1)).flatMap (KAf L n) ++ (bs.drop (k + 1)).flatMap (KAf L n) := by
        rw [← List.flatMap_append, List.take_append_drop]
      rw [e, List.length_append] at hK
      omega
    rw [tk, List.length_append] at hlen
    obtain ⟨h1, k1, G1, A1, K1, F1⟩ := m_end (x := bs[k]) ⟨lo.1, q.1, w, lo.2.1, lo.2.2.2.1, hp⟩ lo.2.2.1 lo.2.2.2.2.1 c env R c2 pb (by omega) hcv K (fun k2 a2 => by rw [KA_one a2 (KAf_is L n bs[k])]; exact hlen)
    rw [KA_one A1 (KAf_is L n bs[k]), ← tk] at K1
    have q1 : Bk NP NQ h1 bs := ⟨F1.mo q.1, fun i y e => by rw [(F1.2.2 243 _ (by unfold AK; omega)).2, (F1.2.2 243 _ (by unfold AK; omega)).2]; exact q.2.1 i y e, by rw [(F1.2.2 220 31 (by unfold AK; omega)).1]; exact q.2.2.1, q.2.2.2⟩
    obtain ⟨h2, G2, K2, F2⟩ := ih (k + 1) m h1 (by omega) (by omega) q1 (w.fr F1 AK_ln) (by rw [(F1.2.2 220 19 (by unfold AK; omega)).1]; exact c) (Row5_cg (fun j _ => (F1.2.2 241 j (by unfold AK; omega)).2) R) (by rw [(F1.2.2 220 27 (by unfold AK; omega)).1]; exact c2) K1
    refine ⟨h2, ?_, K2, F1.tr F2⟩
    show fX7_layPaper_b52 _ _ _ _ = _
    unfold fX7_layPaper_b52
    have e0 : (i32 (2 * (k : Int))).toNatClampNeg = 2 * k := by rw [i32_nat (by omega) (by omega)]; omega
    have e1 : (i32 (2 * (k : Int) + 1)).toNatClampNeg = 2 * k + 1 := by rw [i32_nat (by omega) (by omega)]; omega
    have x0 : ix (i32 (2 * (k : Int))) 8000 := ix_i (by omega) (by omega) (by decide)
    have x1 : ix (i32 (2 * (k : Int) + 1)) 8000 := ix_i (by omega) (by omega) (by decide)
    rw [if_pos q.1.k220, q.2.2.1, if_neg (fun z => by have := (i32_le ⟨by omega, by omega⟩ ⟨by omega, by omega⟩).mp z; omega)]
    simp only [lt_def, q.1.r32, q.1.k243, q.1.l243, two32, one32, i32_mul, i32_add, if_pos x0, if_pos x1, e0, e1, r2.1, r2.2, G1, bd_some, reduceIte]
    exact G2
theorem pie_cov (env : EnvN L n ps) : ∀ q ∈ ps, (∃ m, m < n ∧ cov L q.1 m) ∧ ∃ m, m < n ∧ cov L q.2.1 m := by
  intro q hq
  have h12 := env.1.1 q (List.mem_reverse.mpr hq)
  have l1 := (env.2 false q.1 q.2.2).mp ⟨q, hq, rfl, by unfold bey; simp, by unfold bey; simp; grind⟩
  have l2 := (env.2 true q.2.1 q.2.2).mp ⟨q, hq, rfl, by unfold bey; simp; exact h12, by unfold bey; simp⟩
  have a1 := l1.2.1.1
  have a2 := l1.2.1.2
  have a3 := l2.2.1.1
  have a4 := l2.2.1.2
  unfold bey at a1 a2 a3 a4
  simp at a1 a2 a3 a4
  exact ⟨⟨q.2.2, l1.1, a1, by grind⟩, ⟨q.2.2, l2.1, by grind, by grind⟩⟩
theorem m_lpFin (lo : LOk MA MB MC NP NQ L n) (env : EnvN L n ps) (pb : PB NP NQ ps) {h : xH} (mo : Mo h) (w : Lns h L n) (c : hI h 220 19 = i32 n) (R : Row5 h 241 ps.reverse) (c2 : hI h 220 27 = i32 ps.length) : ∃ h' ks, (bd (fX7_layBreaks 220 h) (fun _ g2 => lt (sI g2 220 4 (0 : Int32)) (fun g5 => lt (0 : Int32) (fun v7 => fX7_layPaper_l52 FU 220 v7 g5)))) = some ((), h') ∧ PaperIs L n ks ∧ Kp h' ks ∧ Fr AP h h' := by
  have hps := lo.2.2.2.2.2.2.1 n ps (Nat.le_refl _) env
  have b5 := lo.2.2.2.2.1
  obtain ⟨h1, bs, G1, Q1, Z1, U1, N1, N2, F1⟩ := m_layBreaks (P := fun y => ∃ m, m < n ∧ cov L y m) lo.1.2.2.1 lo.1.2.2.2 mo lo.2.1 (fun k hk => ⟨(b5 k hk).1, (b5 k hk).2.1, (b5 k hk).2.2.1⟩) (fun i hi e => ⟨i, hi, by grind, by rw [e]; grind⟩) (pie_cov env) pb hps w c R c2
  have pap : PaperIs L n (bs.flatMap (KAf L n)) := by
    refine ⟨bs, KAf L n, Q1.2.2.2.2, fun x k hk hne => ?_, fun x _ => KAf_is L n x, rfl⟩
    apply Classical.byContradiction
    intro hx
    apply hne
    refine off_brk env (fun q hq => ⟨fun z => hx (by rw [← z]; exact (N1 q hq).1), fun z => hx (by rw [← z]; exact (N1 q hq).2)⟩) (fun m hm il => ?_) hk
    have e : lnF (L m) = lnT (L m) := by
      have : (lnF (L m) : Rat) = (lnT (L m) : Rat) := by rw [il.1, il.2]
      exact_mod_cast this
    exact hx (by rw [← il.1]; exact N2 m hm e)
  have hK := lo.2.2.2.2.2.2.2 _ pap
  have f : Fr AP h1 (sI h1 220 4 0) := Fr.I _ (Or.inr (Or.inr (Or.inr (Or.inr (Or.inr ⟨rfl, Or.inl rfl⟩)))))
  have f2 : Fr AK h1 (sI h1 220 4 0) := Fr.I _ (Or.inr (Or.inr ⟨rfl, rfl⟩))
  have F12 : Fr AP h (sI h1 220 4 0) := (F1.mono AB_AP).tr f
  obtain ⟨h2, G2, K2, F2⟩ := m_lp52 lo env pb U1 hK Z1 bs.length 0 FU (sI h1 220 4 0) (by omega) (by rw [FU_eq]; omega) ⟨f.mo Q1.1, fun i y e => by rw [hJ_sI, hJ_sI]; exact Q1.2.1 i y e, by rw [hI_sI, if_neg (by omega)]; exact Q1.2.2.1, Q1.2.2.2⟩ ((w.fr F1 AB_ln).fr f2 AK_ln) (by rw [hI_sI, if_neg (by omega), (F1.2.2 220 19 (by unfold AB; omega)).1]; exact c) (Row5_cg (fun j _ => by rw [hJ_sI, (F1.2.2 241 j (by unfold AB; omega)).2]) R) (by rw [hI_sI, if_neg (by omega), (F1.2.2 220 27 (by unfold AB; omega)).1]; exact c2) ⟨fun i k e => by simp at e, by rw [hI_sI, if_pos ⟨rfl, rfl⟩]; rfl⟩
  refine ⟨h2, _, ?_, pap, K2, F12.tr (F2.mono AK_AP)⟩
  rw [G1, bd_some, lt_def, lt_def]
  exact G2
theorem m_lp7 (lo : LOk MA MB MC NP NQ L n) : ∀ (d k m : Nat) (h : xH), k + d = n → d < m → Mo h → Lns h L n → hI h 220 19 = i32 n → Row5 h 241 (layN L k).reverse → hI h 220 27 = i32 (layN L k).length → PB NP NQ (layN L k) → ∃ h' ks, fX7_layPaper_l7 m 220 (i32 k) h = some ((), h') ∧ PaperIs L n ks ∧ Kp h' ks ∧ Fr AP h h' := by
  intro d
  have hn := lo.2.1
  have b5 := lo.2.2.2.2.1
  induction d with
  | zero =>
    intro k m h hk hm q w c R c2 pb
    obtain ⟨m, rfl⟩ : ∃ k, m = k + 1 := ⟨m - 1, by omega⟩
    have ekn : k = n := by omega
    rw [ekn] at R c2 pb
    obtain ⟨h', ks, G, P1, K1, F1⟩ := m_lpFin lo (layN_env L n) pb q w c R c2
    refine ⟨h', ks, ?_, P1, K1, F1⟩
    show fX7_layPaper_b7 _ _ _ _ = _
    unfold fX7_layPaper_b7
    rw [if_pos q.k220, c, if_pos ((i32_le ⟨by omega, by omega⟩ ⟨by omega, by omega⟩).mpr (by omega))]
    exact G
  | succ d ih =>
    intro k m h hk hm q w c R c2 pb
    obtain ⟨m, rfl⟩ : ∃ k, m = k + 1 := ⟨m - 1, by omega⟩
    show ∃ h' ks, fX7_layPaper_b7 _ _ _ _ = _ ∧ _
    unfold fX7_layPaper_b7 fX7_layPaper_b35
    have e1 := nat_i k (by omega)
    have x1 : ix (i32 k) 700 := ix_i (by omega) (by omega) (by decide)
    have wk := w k (by omega)
    have bk := b5 k (by omega)
    have nx : ∀ g : xH, (lt (i32 k + 1) fun v1 => fX7_layPaper_l7 m 220 v1 g) = fX7_layPaper_l7 m 220 (i32 ((k + 1 : Nat) : Int)) g := by
      intro g; rw [lt_def, one32, i32_add]; rfl
    rw [if_pos q.k220, c, if_neg (fun z => by have := (i32_le ⟨by omega, by omega⟩ ⟨by omega, by omega⟩).mp z; omega)]
    simp only [q.r20, q.r21, q.k235, q.k236, q.l235, q.l236, if_pos x1, e1, wk.1, wk.2.1, reduceIte, nx]
    by_cases c1 : lnT (L k) ≤ lnF (L k)
    · rw [if_pos ((i32_le bk.2.1 bk.1).mpr c1)]
      have el : layN L (k + 1) = layN L k := by show (if _ then _ else _) = _; rw [if_pos c1]
      exact ih (k + 1) m h (by omega) (by omega) q w c (by rw [el]; exact R) (by rw [el]; exact c2) (by rw [el]; exact pb)
    · rw [if_neg (fun z => c1 ((i32_le bk.2.1 bk.1).mp z))]
      have el : layN L (k + 1) = (underN L k (layN L k)).reverse := by show (if _ then _ else _) = _; rw [if_neg c1]
      have l1 := lo.2.2.2.2.2.2.1 k _ (by omega) (layN_env L k)
      have l2 := lo.2.2.2.2.2.2.1 (k + 1) _ (by omega) (layN_env L (k + 1))
      rw [el, List.length_reverse] at l2
      obtain ⟨h1, G1, R1, C1, P1, F1⟩ := m_under lo.1 q w hn (show k < n by omega) lo.2.2.2.1 bk.2.2.1 bk.2.2.2 bk.1 bk.2.1 (by omega) (fun o ho z => lo.2.2.2.2.2.1 k o ho (by omega) z) (layN_env L k) R c2 pb (by omega) (by omega)
      obtain ⟨h2, ks, G2, PP, K2, F2⟩ := ih (k + 1) m h1 (by omega) (by omega) (F1.mo q) (w.fr F1 AU_ln) (by rw [(F1.2.2 220 19 (by unfold AU; omega)).1]; exact c) (by rw [el, List.reverse_reverse]; exact R1) (by rw [el, List.length_reverse]; exact C1) (by rw [el]; intro q hq; exact P1 q (List.mem_reverse.mp hq))
      exact ⟨h2, ks, by rw [G1, bd_some]; exact G2, PP, K2, (F1.mono AU_AP).tr F2⟩
theorem m_layPaper (lo : LOk MA MB MC NP NQ L n) {h : xH} (q : Mo h) (w : Lns h L n) (c : hI h 220 19 = i32 n) : ∃ h' ks, fX7_layPaper 220 h = some ((), h') ∧ PaperIs L n ks ∧ Kp h' ks ∧ Fr AP h h' := by
  have f : Fr AU h (sI h 220 27 0) := Fr.I _ (Or.inr (Or.inr ⟨rfl, Or.inr rfl⟩))
  have hn := lo.2.1
  obtain ⟨h', ks, G, P1, K1, F1⟩ := m_lp7 lo n 0 FU (sI h 220 27 0) (by omega) (by rw [FU_eq]; omega) (f.mo q) (w.fr f AU_ln) (by rw [hI_sI, if_neg (by omega)]; exact c) trivial (by rw [hI_sI, if_pos ⟨rfl, rfl⟩]; rfl) (fun q hq => by cases hq)
  refine ⟨h', ks, ?_, P1, K1, (f.mono AU_AP).tr F1⟩
  unfold fX7_layPaper
  rw [if_pos q.k220, lt_def, lt_def]
  exact G
end LP
