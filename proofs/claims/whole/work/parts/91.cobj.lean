/-! THE CLASS' OBJECT: its cells but the shapes, as the constructors make them -/
def ckd (r : Nat) : Option (Nat × Nat) := match r with
  | 2 => some (6, 0)
  | 3 => some (12, 7)
  | 10 => some (0, 0)
  | 11 => some (8, 8)
  | 12 => some (8, 8)
  | 13 => some (12, 8)
  | 62 => some (12, 14)
  | 63 => some (10, 2)
  | 64 => some (5, 0)
  | 65 => some (11, 400)
  | 66 => some (8, 7)
  | 67 => some (1, 0)
  | 68 => some (8, 288)
  | 69 => some (8, 288)
  | 70 => some (9, 288)
  | 71 => some (9, 288)
  | 72 => some (9, 288)
  | 73 => some (8, 288)
  | 74 => some (1, 0)
  | 75 => some (8, 12)
  | 76 => some (8, 12)
  | 77 => some (9, 12)
  | 78 => some (9, 12)
  | 79 => some (9, 12)
  | 80 => some (8, 12)
  | 81 => some (1, 0)
  | 82 => some (8, 12)
  | 83 => some (8, 12)
  | 84 => some (9, 12)
  | 85 => some (9, 12)
  | 86 => some (9, 12)
  | 87 => some (8, 12)
  | 88 => some (2, 0)
  | 89 => some (2, 0)
  | 90 => some (2, 0)
  | 91 => some (3, 0)
  | 92 => some (2, 0)
  | 93 => some (2, 0)
  | _ => none
def crf (r k : Nat) : Option Nat := match r, k with
  | 2, 0 => some 3
  | 2, 2 => some 10
  | 2, 3 => some 62
  | 2, 4 => some 63
  | 2, 5 => some 64
  | 2, 7 => some 66
  | 2, 8 => some 67
  | 2, 9 => some 74
  | 2, 10 => some 81
  | 2, 11 => some 88
  | 2, 12 => some 89
  | 2, 13 => some 90
  | 2, 15 => some 91
  | 10, 3 => some 11
  | 10, 4 => some 12
  | 10, 5 => some 13
  | 62, 0 => some 136
  | 62, 1 => some 142
  | 62, 2 => some 148
  | 62, 3 => some 154
  | 62, 4 => some 160
  | 62, 5 => some 166
  | 62, 6 => some 172
  | 62, 7 => some 178
  | 62, 8 => some 184
  | 62, 9 => some 190
  | 62, 10 => some 196
  | 62, 11 => some 202
  | 62, 12 => some 208
  | 62, 13 => some 214
  | 64, 2 => some 65
  | 67, 1 => some 68
  | 67, 2 => some 69
  | 67, 3 => some 70
  | 67, 4 => some 71
  | 67, 5 => some 72
  | 67, 6 => some 73
  | 74, 1 => some 75
  | 74, 2 => some 76
  | 74, 3 => some 77
  | 74, 4 => some 78
  | 74, 5 => some 79
  | 74, 6 => some 80
  | 81, 1 => some 82
  | 81, 2 => some 83
  | 81, 3 => some 84
  | 81, 4 => some 85
  | 81, 5 => some 86
  | 81, 6 => some 87
  | 91, 3 => some 92
  | 91, 4 => some 93
  | _, _ => none
def Co (h : xH) : Prop := (∀ r x, ckd r = some x → xkd h r = x) ∧ ∀ r k x, crf r k = some x → hR h r k = x
section CO
variable {h : xH}
theorem Co.k2 (q : Co h) : kc h 2 = 6 := by unfold kc; rw [q.1 2 _ rfl]
theorem Co.k3 (q : Co h) : kc h 3 = 12 := by unfold kc; rw [q.1 3 _ rfl]
theorem Co.l3 (q : Co h) : kl h 3 = 7 := by unfold kl; rw [q.1 3 _ rfl]
theorem Co.k10 (q : Co h) : kc h 10 = 0 := by unfold kc; rw [q.1 10 _ rfl]
theorem Co.k11 (q : Co h) : kc h 11 = 8 := by unfold kc; rw [q.1 11 _ rfl]
theorem Co.l11 (q : Co h) : kl h 11 = 8 := by unfold kl; rw [q.1 11 _ rfl]
theorem Co.k12 (q : Co h) : kc h 12 = 8 := by unfold kc; rw [q.1 12 _ rfl]
theorem Co.l12 (q : Co h) : kl h 12 = 8 := by unfold kl; rw [q.1 12 _ rfl]
theorem Co.k13 (q : Co h) : kc h 13 = 12 := by unfold kc; rw [q.1 13 _ rfl]
theorem Co.l13 (q : Co h) : kl h 13 = 8 := by unfold kl; rw [q.1 13 _ rfl]
theorem Co.k62 (q : Co h) : kc h 62 = 12 := by unfold kc; rw [q.1 62 _ rfl]
theorem Co.l62 (q : Co h) : kl h 62 = 14 := by unfold kl; rw [q.1 62 _ rfl]
theorem Co.k63 (q : Co h) : kc h 63 = 10 := by unfold kc; rw [q.1 63 _ rfl]
theorem Co.l63 (q : Co h) : kl h 63 = 2 := by unfold kl; rw [q.1 63 _ rfl]
theorem Co.k64 (q : Co h) : kc h 64 = 5 := by unfold kc; rw [q.1 64 _ rfl]
theorem Co.k65 (q : Co h) : kc h 65 = 11 := by unfold kc; rw [q.1 65 _ rfl]
theorem Co.l65 (q : Co h) : kl h 65 = 400 := by unfold kl; rw [q.1 65 _ rfl]
theorem Co.k66 (q : Co h) : kc h 66 = 8 := by unfold kc; rw [q.1 66 _ rfl]
theorem Co.l66 (q : Co h) : kl h 66 = 7 := by unfold kl; rw [q.1 66 _ rfl]
theorem Co.k67 (q : Co h) : kc h 67 = 1 := by unfold kc; rw [q.1 67 _ rfl]
theorem Co.k68 (q : Co h) : kc h 68 = 8 := by unfold kc; rw [q.1 68 _ rfl]
theorem Co.l68 (q : Co h) : kl h 68 = 288 := by unfold kl; rw [q.1 68 _ rfl]
theorem Co.k69 (q : Co h) : kc h 69 = 8 := by unfold kc; rw [q.1 69 _ rfl]
theorem Co.l69 (q : Co h) : kl h 69 = 288 := by unfold kl; rw [q.1 69 _ rfl]
theorem Co.k70 (q : Co h) : kc h 70 = 9 := by unfold kc; rw [q.1 70 _ rfl]
theorem Co.l70 (q : Co h) : kl h 70 = 288 := by unfold kl; rw [q.1 70 _ rfl]
theorem Co.k71 (q : Co h) : kc h 71 = 9 := by unfold kc; rw [q.1 71 _ rfl]
theorem Co.l71 (q : Co h) : kl h 71 = 288 := by unfold kl; rw [q.1 71 _ rfl]
theorem Co.k72 (q : Co h) : kc h 72 = 9 := by unfold kc; rw [q.1 72 _ rfl]
theorem Co.l72 (q : Co h) : kl h 72 = 288 := by unfold kl; rw [q.1 72 _ rfl]
theorem Co.k73 (q : Co h) : kc h 73 = 8 := by unfold kc; rw [q.1 73 _ rfl]
theorem Co.l73 (q : Co h) : kl h 73 = 288 := by unfold kl; rw [q.1 73 _ rfl]
theorem Co.k74 (q : Co h) : kc h 74 = 1 := by unfold kc; rw [q.1 74 _ rfl]
theorem Co.k75 (q : Co h) : kc h 75 = 8 := by unfold kc; rw [q.1 75 _ rfl]
theorem Co.l75 (q : Co h) : kl h 75 = 12 := by unfold kl; rw [q.1 75 _ rfl]
theorem Co.k76 (q : Co h) : kc h 76 = 8 := by unfold kc; rw [q.1 76 _ rfl]
theorem Co.l76 (q : Co h) : kl h 76 = 12 := by unfold kl; rw [q.1 76 _ rfl]
theorem Co.k77 (q : Co h) : kc h 77 = 9 := by unfold kc; rw [q.1 77 _ rfl]
theorem Co.l77 (q : Co h) : kl h 77 = 12 := by unfold kl; rw [q.1 77 _ rfl]
theorem Co.k78 (q : Co h) : kc h 78 = 9 := by unfold kc; rw [q.1 78 _ rfl]
theorem Co.l78 (q : Co h) : kl h 78 = 12 := by unfold kl; rw [q.1 78 _ rfl]
theorem Co.k79 (q : Co h) : kc h 79 = 9 := by unfold kc; rw [q.1 79 _ rfl]
theorem Co.l79 (q : Co h) : kl h 79 = 12 := by unfold kl; rw [q.1 79 _ rfl]
theorem Co.k80 (q : Co h) : kc h 80 = 8 := by unfold kc; rw [q.1 80 _ rfl]
theorem Co.l80 (q : Co h) : kl h 80 = 12 := by unfold kl; rw [q.1 80 _ rfl]
theorem Co.k81 (q : Co h) : kc h 81 = 1 := by unfold kc; rw [q.1 81 _ rfl]
theorem Co.k82 (q : Co h) : kc h 82 = 8 := by unfold kc; rw [q.1 82 _ rfl]
theorem Co.l82 (q : Co h) : kl h 82 = 12 := by unfold kl; rw [q.1 82 _ rfl]
theorem Co.k83 (q : Co h) : kc h 83 = 8 := by unfold kc; rw [q.1 83 _ rfl]
theorem Co.l83 (q : Co h) : kl h 83 = 12 := by unfold kl; rw [q.1 83 _ rfl]
theorem Co.k84 (q : Co h) : kc h 84 = 9 := by unfold kc; rw [q.1 84 _ rfl]
theorem Co.l84 (q : Co h) : kl h 84 = 12 := by unfold kl; rw [q.1 84 _ rfl]
theorem Co.k85 (q : Co h) : kc h 85 = 9 := by unfold kc; rw [q.1 85 _ rfl]
theorem Co.l85 (q : Co h) : kl h 85 = 12 := by unfold kl; rw [q.1 85 _ rfl]
theorem Co.k86 (q : Co h) : kc h 86 = 9 := by unfold kc; rw [q.1 86 _ rfl]
theorem Co.l86 (q : Co h) : kl h 86 = 12 := by unfold kl; rw [q.1 86 _ rfl]
theorem Co.k87 (q : Co h) : kc h 87 = 8 := by unfold kc; rw [q.1 87 _ rfl]
theorem Co.l87 (q : Co h) : kl h 87 = 12 := by unfold kl; rw [q.1 87 _ rfl]
theorem Co.k88 (q : Co h) : kc h 88 = 2 := by unfold kc; rw [q.1 88 _ rfl]
theorem Co.k89 (q : Co h) : kc h 89 = 2 := by unfold kc; rw [q.1 89 _ rfl]
theorem Co.k90 (q : Co h) : kc h 90 = 2 := by unfold kc; rw [q.1 90 _ rfl]
theorem Co.k91 (q : Co h) : kc h 91 = 3 := by unfold kc; rw [q.1 91 _ rfl]
theorem Co.k92 (q : Co h) : kc h 92 = 2 := by unfold kc; rw [q.1 92 _ rfl]
theorem Co.k93 (q : Co h) : kc h 93 = 2 := by unfold kc; rw [q.1 93 _ rfl]
theorem Co.r2_0 (q : Co h) : hR h 2 0 = 3 := q.2 2 0 _ rfl
theorem Co.r2_2 (q : Co h) : hR h 2 2 = 10 := q.2 2 2 _ rfl
theorem Co.r2_3 (q : Co h) : hR h 2 3 = 62 := q.2 2 3 _ rfl
theorem Co.r2_4 (q : Co h) : hR h 2 4 = 63 := q.2 2 4 _ rfl
theorem Co.r2_5 (q : Co h) : hR h 2 5 = 64 := q.2 2 5 _ rfl
theorem Co.r2_7 (q : Co h) : hR h 2 7 = 66 := q.2 2 7 _ rfl
theorem Co.r2_8 (q : Co h) : hR h 2 8 = 67 := q.2 2 8 _ rfl
theorem Co.r2_9 (q : Co h) : hR h 2 9 = 74 := q.2 2 9 _ rfl
theorem Co.r2_10 (q : Co h) : hR h 2 10 = 81 := q.2 2 10 _ rfl
theorem Co.r2_11 (q : Co h) : hR h 2 11 = 88 := q.2 2 11 _ rfl
theorem Co.r2_12 (q : Co h) : hR h 2 12 = 89 := q.2 2 12 _ rfl
theorem Co.r2_13 (q : Co h) : hR h 2 13 = 90 := q.2 2 13 _ rfl
theorem Co.r2_15 (q : Co h) : hR h 2 15 = 91 := q.2 2 15 _ rfl
theorem Co.r10_3 (q : Co h) : hR h 10 3 = 11 := q.2 10 3 _ rfl
theorem Co.r10_4 (q : Co h) : hR h 10 4 = 12 := q.2 10 4 _ rfl
theorem Co.r10_5 (q : Co h) : hR h 10 5 = 13 := q.2 10 5 _ rfl
theorem Co.r62_0 (q : Co h) : hR h 62 0 = 136 := q.2 62 0 _ rfl
theorem Co.r62_1 (q : Co h) : hR h 62 1 = 142 := q.2 62 1 _ rfl
theorem Co.r62_2 (q : Co h) : hR h 62 2 = 148 := q.2 62 2 _ rfl
theorem Co.r62_3 (q : Co h) : hR h 62 3 = 154 := q.2 62 3 _ rfl
theorem Co.r62_4 (q : Co h) : hR h 62 4 = 160 := q.2 62 4 _ rfl
theorem Co.r62_5 (q : Co h) : hR h 62 5 = 166 := q.2 62 5 _ rfl
theorem Co.r62_6 (q : Co h) : hR h 62 6 = 172 := q.2 62 6 _ rfl
theorem Co.r62_7 (q : Co h) : hR h 62 7 = 178 := q.2 62 7 _ rfl
theorem Co.r62_8 (q : Co h) : hR h 62 8 = 184 := q.2 62 8 _ rfl
theorem Co.r62_9 (q : Co h) : hR h 62 9 = 190 := q.2 62 9 _ rfl
theorem Co.r62_10 (q : Co h) : hR h 62 10 = 196 := q.2 62 10 _ rfl
theorem Co.r62_11 (q : Co h) : hR h 62 11 = 202 := q.2 62 11 _ rfl
theorem Co.r62_12 (q : Co h) : hR h 62 12 = 208 := q.2 62 12 _ rfl
theorem Co.r62_13 (q : Co h) : hR h 62 13 = 214 := q.2 62 13 _ rfl
theorem Co.r64_2 (q : Co h) : hR h 64 2 = 65 := q.2 64 2 _ rfl
theorem Co.r67_1 (q : Co h) : hR h 67 1 = 68 := q.2 67 1 _ rfl
theorem Co.r67_2 (q : Co h) : hR h 67 2 = 69 := q.2 67 2 _ rfl
theorem Co.r67_3 (q : Co h) : hR h 67 3 = 70 := q.2 67 3 _ rfl
theorem Co.r67_4 (q : Co h) : hR h 67 4 = 71 := q.2 67 4 _ rfl
theorem Co.r67_5 (q : Co h) : hR h 67 5 = 72 := q.2 67 5 _ rfl
theorem Co.r67_6 (q : Co h) : hR h 67 6 = 73 := q.2 67 6 _ rfl
theorem Co.r74_1 (q : Co h) : hR h 74 1 = 75 := q.2 74 1 _ rfl
theorem Co.r74_2 (q : Co h) : hR h 74 2 = 76 := q.2 74 2 _ rfl
theorem Co.r74_3 (q : Co h) : hR h 74 3 = 77 := q.2 74 3 _ rfl
theorem Co.r74_4 (q : Co h) : hR h 74 4 = 78 := q.2 74 4 _ rfl
theorem Co.r74_5 (q : Co h) : hR h 74 5 = 79 := q.2 74 5 _ rfl
theorem Co.r74_6 (q : Co h) : hR h 74 6 = 80 := q.2 74 6 _ rfl
theorem Co.r81_1 (q : Co h) : hR h 81 1 = 82 := q.2 81 1 _ rfl
theorem Co.r81_2 (q : Co h) : hR h 81 2 = 83 := q.2 81 2 _ rfl
theorem Co.r81_3 (q : Co h) : hR h 81 3 = 84 := q.2 81 3 _ rfl
theorem Co.r81_4 (q : Co h) : hR h 81 4 = 85 := q.2 81 4 _ rfl
theorem Co.r81_5 (q : Co h) : hR h 81 5 = 86 := q.2 81 5 _ rfl
theorem Co.r81_6 (q : Co h) : hR h 81 6 = 87 := q.2 81 6 _ rfl
theorem Co.r91_3 (q : Co h) : hR h 91 3 = 92 := q.2 91 3 _ rfl
theorem Co.r91_4 (q : Co h) : hR h 91 4 = 93 := q.2 91 4 _ rfl
end CO
theorem Co.lo67 {h : xH} (q : Co h) : Lo h 67 288 := by
  refine ⟨q.k67, fun k a b => ?_, ⟨q.k68, q.l68⟩, ⟨q.k69, q.l69⟩, ⟨q.k70, q.l70⟩, ⟨q.k71, q.l71⟩, ⟨q.k72, q.l72⟩, ⟨q.k73, q.l73⟩⟩
  rcases (show k = 1 ∨ k = 2 ∨ k = 3 ∨ k = 4 ∨ k = 5 ∨ k = 6 by omega) with e | e | e | e | e | e <;> rw [e]
  · exact q.r67_1
  · exact q.r67_2
  · exact q.r67_3
  · exact q.r67_4
  · exact q.r67_5
  · exact q.r67_6
theorem Co.lo74 {h : xH} (q : Co h) : Lo h 74 12 := by
  refine ⟨q.k74, fun k a b => ?_, ⟨q.k75, q.l75⟩, ⟨q.k76, q.l76⟩, ⟨q.k77, q.l77⟩, ⟨q.k78, q.l78⟩, ⟨q.k79, q.l79⟩, ⟨q.k80, q.l80⟩⟩
  rcases (show k = 1 ∨ k = 2 ∨ k = 3 ∨ k = 4 ∨ k = 5 ∨ k = 6 by omega) with e | e | e | e | e | e <;> rw [e]
  · exact q.r74_1
  · exact q.r74_2
  · exact q.r74_3
  · exact q.r74_4
  · exact q.r74_5
  · exact q.r74_6
theorem Co.lo81 {h : xH} (q : Co h) : Lo h 81 12 := by
  refine ⟨q.k81, fun k a b => ?_, ⟨q.k82, q.l82⟩, ⟨q.k83, q.l83⟩, ⟨q.k84, q.l84⟩, ⟨q.k85, q.l85⟩, ⟨q.k86, q.l86⟩, ⟨q.k87, q.l87⟩⟩
  rcases (show k = 1 ∨ k = 2 ∨ k = 3 ∨ k = 4 ∨ k = 5 ∨ k = 6 by omega) with e | e | e | e | e | e <;> rw [e]
  · exact q.r81_1
  · exact q.r81_2
  · exact q.r81_3
  · exact q.r81_4
  · exact q.r81_5
  · exact q.r81_6
