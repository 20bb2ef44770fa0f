/-! THE CLASS LOADS A STORE'S LINES; move -/
def ALd (r k : Nat) : Prop := AY 74 r k ∨ AY 67 r k
def mvS (dx dy : Int) (p : Spn) : Spn := (p.1 + dx, p.2.1 + dy, p.2.2.1 + dx, p.2.2.2 + dy)
theorem mv_lby (dx dy : Int) (p : Spn) : lby (mvS dx dy p) = (lnF (lby p) + dx, lnT (lby p) + dx, lnA (lby p) + dy * lnC (lby p) - lnB (lby p) * dx, lnB (lby p), lnC (lby p)) := by
  obtain ⟨x1, y1, x2, y2⟩ := p
  by_cases z : x1 = x2
  · have e1 : lby (mvS dx dy (x1, y1, x2, y2)) = (x1 + dx, x2 + dx, y1 + dy, 0, 1) := if_pos (by show x1 + dx = x2 + dx; omega)
    have e2 : lby (x1, y1, x2, y2) = (x1, x2, y1, 0, 1) := if_pos z
    rw [e1, e2]
    show (x1 + dx, x2 + dx, y1 + dy, (0 : Int), (1 : Int)) = (x1 + dx, x2 + dx, y1 + dy * 1 - 0 * dx, 0, 1)
    rw [Int.mul_one, Int.zero_mul, Int.sub_zero]
  · have e1 : lby (mvS dx dy (x1, y1, x2, y2)) = (x1 + dx, x2 + dx, (y1 + dy) * ((x2 + dx) - (x1 + dx)) - ((y2 + dy) - (y1 + dy)) * (x1 + dx), (y2 + dy) - (y1 + dy), (x2 + dx) - (x1 + dx)) := if_neg (by show ¬ x1 + dx = x2 + dx; omega)
    have e2 : lby (x1, y1, x2, y2) = (x1, x2, y1 * (x2 - x1) - (y2 - y1) * x1, y2 - y1, x2 - x1) := if_neg z
    rw [e1, e2]
    show _ = (x1 + dx, x2 + dx, (y1 * (x2 - x1) - (y2 - y1) * x1) + dy * (x2 - x1) - (y2 - y1) * dx, y2 - y1, x2 - x1)
    rw [show (y2 + dy) - (y1 + dy) = y2 - y1 by omega, show (x2 + dx) - (x1 + dx) = x2 - x1 by omega, Int.add_mul, Int.mul_add, show y1 * (x2 - x1) + dy * (x2 - x1) - ((y2 - y1) * x1 + (y2 - y1) * dx) = y1 * (x2 - x1) - (y2 - y1) * x1 + dy * (x2 - x1) - (y2 - y1) * dx by omega]
section LD
variable {h : xH} {S : Ast} {cap : Nat → Nat} {lst : Nat → List Kn}
theorem ald_ok {r k : Nat} (z : ALd r k) : 67 ≤ r ∧ r ≤ 93 ∧ crf r k = none := by
  unfold ALd AY at z
  exact ⟨by omega, by omega, crf_lo (by omega) (by omega) (by omega)⟩
theorem ShI.ald (I : ShI h cap lst) {h1 : xH} (F : Fr ALd h h1) : ShI h1 cap lst := I.fr F (fun r k fr z => frc_no (ald_ok z).1 (ald_ok z).2.1 fr)
theorem CLl.fr {A : Nat → Nat → Prop} {h1 : xH} {r : Nat} {ll : List Ln} (w : CLl h r ll) (F : Fr A h h1) (hA : ∀ r' k, AY r r' k → ¬ A r' k) : CLl h1 r ll := by
  refine ⟨by rw [(F.2.2 r 0 (hA _ _ (Or.inl ⟨rfl, rfl⟩))).1]; exact w.1, fun k l e => ?_⟩
  rw [(F.2.2 (r + 1) k (hA _ _ (Or.inr (by omega)))).1, (F.2.2 (r + 2) k (hA _ _ (Or.inr (by omega)))).1, (F.2.2 (r + 3) k (hA _ _ (Or.inr (by omega)))).2, (F.2.2 (r + 4) k (hA _ _ (Or.inr (by omega)))).2, (F.2.2 (r + 5) k (hA _ _ (Or.inr (by omega)))).2]
  exact w.2 k l e
theorem c_loadOne {n : Nat} (I : ShI h cap lst) (hn : n < 6) (C : Can (lst n)) : ∃ h', fX6_loadOne 2 (i32 (n : Int)) h = some ((), h') ∧ CLl h' 74 ((spL (lst n)).map lby) ∧ CLl h' 67 [] ∧ Fr ALd h h' := by
  have co := I.1
  have xn : ix (i32 (n : Int)) 7 := ix_i (by omega) (by omega) (by decide)
  have nn := nat_i n (by omega)
  have F0 : Fr ALd h (sI h 74 0 0) := Fr.I _ (Or.inl (Or.inl ⟨rfl, rfl⟩))
  have w0 : CLl (sI h 74 0 0) 74 [] := ⟨by rw [hI_sI, if_pos ⟨rfl, rfl⟩]; rfl, fun k l e => by rw [List.getElem?_nil] at e; cases e⟩
  have I0 := I.ald F0
  have W := I0.2.1 n (by omega)
  rw [sh_lo (by omega)] at W
  obtain ⟨h1, E1, w1, F1⟩ := c_addShape C.1 (by decide) I0.1.lo74 w0 W (fun r k z y => frc_no (ald_ok (Or.inl y)).1 (ald_ok (Or.inl y)).2.1 (I0.2.2.2.1 n (by omega) r k (by rw [sh_lo (by omega)]; exact z))) (by have := C.1.1; show 0 + (lst n).length ≤ 12; omega)
  rw [List.nil_append] at w1
  have I1 := I0.ald (F1.mono (fun r k z => Or.inl z))
  have F2 : Fr (AY 67) h1 (sI h1 67 0 0) := Fr.I _ (Or.inl ⟨rfl, rfl⟩)
  obtain ⟨E2, w2, -⟩ := c_sta I1.1
  refine ⟨sI h1 67 0 0, ?_, w1.fr F2 (fun r k z y => by unfold AY at z y; omega), w2, (F0.tr (F1.mono (fun r k z => Or.inl z))).tr (F2.mono (fun r k z => Or.inr z))⟩
  have k0 := I0.1
  have k1 := I1.1
  have S0 : fX1_start 74 h = some ((), sI h 74 0 0) := by
    unfold fX1_start
    rw [if_pos co.lo74.1, lt_def]
  unfold fX6_loadOne
  rw [if_pos co.k2, co.r2_9, if_pos co.lo74.1, S0, bd_some, k0.r2_0, if_pos k0.k3, k0.l3, if_pos xn, k0.r2_9, if_pos k0.lo74.1]
  simp only [nn]
  rw [E1, bd_some, k1.r2_8, if_pos k1.lo67.1, E2, bd_some]
/-- one line moved -/
theorem c_addMoved {dx dy : Int} {k : Nat} {p : Spn} {sps : List Spn} {ll : List Ln} (l4 : Lo h 74 12) (l7 : Lo h 67 288) (w4 : CLl h 74 (sps.map lby)) (w7 : CLl h 67 ll) (hl : ll.length < 288) (hk : sps[k]? = some p) (k12 : k < 12) (hp : SpB p) (bx : -5940 ≤ dx ∧ dx ≤ 5940) (by0 : -5940 ≤ dy ∧ dy ≤ 5940) : ∃ h', fX1_addMoved 67 74 (i32 (k : Int)) (i32 dx) (i32 dy) h = some ((), h') ∧ CLl h' 67 (ll ++ [lby (mvS dx dy p)]) ∧ Fr (AY 67) h h' := by
  have e : (sps.map lby)[k]? = some (lby p) := by rw [List.getElem?_map, hk]; rfl
  have v := w4.2 k _ e
  have b := lby_b hp
  have x1 : ix (i32 (k : Int)) 12 := ix_i (by omega) (by omega) (by decide)
  have n1 := nat_i k (by omega)
  obtain ⟨h', E, A, F⟩ := c_addLine l7 w7 hl (by decide) (a := lnF (lby p) + dx) (b := lnT (lby p) + dx) (A := lnA (lby p) + dy * lnC (lby p) - lnB (lby p) * dx) (B := lnB (lby p)) (C := lnC (lby p)) ⟨by omega, by omega⟩ ⟨by omega, by omega⟩ (by omega) b.1.2.2.1 ⟨by have := b.1.2.2.1; omega, by have := b.1.2.2.2; omega⟩
  refine ⟨h', ?_, by rw [mv_lby]; exact A, F⟩
  obtain ⟨a1, a2, a3, a4, a5, a6, a7, a8⟩ := l4
  unfold fX1_addMoved
  rw [if_pos a1, a2 3 (by decide) (by decide), if_pos a5.1, a5.2, if_pos x1, a2 5 (by decide) (by decide), if_pos a7.1, a7.2, if_pos x1, a2 4 (by decide) (by decide), if_pos a6.1, a6.2, if_pos x1, lt_def, a2 1 (by decide) (by decide), if_pos a3.1, a3.2, if_pos x1, a2 2 (by decide) (by decide), if_pos a4.1, a4.2, if_pos x1, if_pos l7.1]
  simp only [n1]
  rw [v.1, v.2.1, v.2.2.1, v.2.2.2.1, v.2.2.2.2, i64_of32 ⟨by omega, by omega⟩, i64_of32 ⟨by omega, by omega⟩, i64_mul, i64_mul, i64_add, i64_sub, i32_add, i32_add, E, bd_some]
end LD
