/-! THE REFERENCE'S OBJECT: its cells, as the constructors make them -/
def mrf (k : Nat) : Nat := match k with
  | 2 => 221
  | 3 => 222
  | 5 => 223
  | 6 => 224
  | 7 => 225
  | 8 => 226
  | 9 => 227
  | 10 => 228
  | 11 => 229
  | 13 => 230
  | 14 => 231
  | 15 => 232
  | 16 => 233
  | 17 => 234
  | 20 => 235
  | 21 => 236
  | 22 => 237
  | 23 => 238
  | 24 => 239
  | 25 => 240
  | 28 => 241
  | 29 => 242
  | 32 => 243
  | 33 => 244
  | 34 => 245
  | 35 => 246
  | 41 => 247
  | 42 => 248
  | 43 => 249
  | _ => 0
def mkd (r : Nat) : Nat × Nat := match r with
  | 220 => (7, 0)
  | 221 => (8, 7)
  | 222 => (8, 222)
  | 223 => (9, 6400)
  | 224 => (10, 1600)
  | 225 => (8, 1776)
  | 226 => (8, 8)
  | 227 => (9, 51200)
  | 228 => (10, 12800)
  | 229 => (8, 8)
  | 230 => (8, 444)
  | 231 => (8, 2)
  | 232 => (9, 12800)
  | 233 => (10, 3200)
  | 234 => (10, 2)
  | 235 => (8, 700)
  | 236 => (8, 700)
  | 237 => (9, 700)
  | 238 => (9, 700)
  | 239 => (9, 700)
  | 240 => (8, 96)
  | 241 => (9, 16000)
  | 242 => (9, 16000)
  | 243 => (9, 8000)
  | 244 => (8, 13)
  | 245 => (8, 13)
  | 246 => (11, 400)
  | 247 => (8, 12)
  | 248 => (8, 12)
  | 249 => (10, 12)
  | _ => (99, 0)
def Mo (h : xH) : Prop := (∀ r, 220 ≤ r → r < 250 → xkd h r = mkd r) ∧ ∀ k, hR h 220 k = mrf k
section MO
variable {h : xH}
theorem Mo.k220 (q : Mo h) : kc h 220 = 7 := by unfold kc; rw [q.1 220 (by decide) (by decide)]; rfl
theorem Mo.k221 (q : Mo h) : kc h 221 = 8 := by unfold kc; rw [q.1 221 (by decide) (by decide)]; rfl
theorem Mo.l221 (q : Mo h) : kl h 221 = 7 := by unfold kl; rw [q.1 221 (by decide) (by decide)]; rfl
theorem Mo.k222 (q : Mo h) : kc h 222 = 8 := by unfold kc; rw [q.1 222 (by decide) (by decide)]; rfl
theorem Mo.l222 (q : Mo h) : kl h 222 = 222 := by unfold kl; rw [q.1 222 (by decide) (by decide)]; rfl
theorem Mo.k223 (q : Mo h) : kc h 223 = 9 := by unfold kc; rw [q.1 223 (by decide) (by decide)]; rfl
theorem Mo.l223 (q : Mo h) : kl h 223 = 6400 := by unfold kl; rw [q.1 223 (by decide) (by decide)]; rfl
theorem Mo.k224 (q : Mo h) : kc h 224 = 10 := by unfold kc; rw [q.1 224 (by decide) (by decide)]; rfl
theorem Mo.l224 (q : Mo h) : kl h 224 = 1600 := by unfold kl; rw [q.1 224 (by decide) (by decide)]; rfl
theorem Mo.k225 (q : Mo h) : kc h 225 = 8 := by unfold kc; rw [q.1 225 (by decide) (by decide)]; rfl
theorem Mo.l225 (q : Mo h) : kl h 225 = 1776 := by unfold kl; rw [q.1 225 (by decide) (by decide)]; rfl
theorem Mo.k226 (q : Mo h) : kc h 226 = 8 := by unfold kc; rw [q.1 226 (by decide) (by decide)]; rfl
theorem Mo.l226 (q : Mo h) : kl h 226 = 8 := by unfold kl; rw [q.1 226 (by decide) (by decide)]; rfl
theorem Mo.k227 (q : Mo h) : kc h 227 = 9 := by unfold kc; rw [q.1 227 (by decide) (by decide)]; rfl
theorem Mo.l227 (q : Mo h) : kl h 227 = 51200 := by unfold kl; rw [q.1 227 (by decide) (by decide)]; rfl
theorem Mo.k228 (q : Mo h) : kc h 228 = 10 := by unfold kc; rw [q.1 228 (by decide) (by decide)]; rfl
theorem Mo.l228 (q : Mo h) : kl h 228 = 12800 := by unfold kl; rw [q.1 228 (by decide) (by decide)]; rfl
theorem Mo.k229 (q : Mo h) : kc h 229 = 8 := by unfold kc; rw [q.1 229 (by decide) (by decide)]; rfl
theorem Mo.l229 (q : Mo h) : kl h 229 = 8 := by unfold kl; rw [q.1 229 (by decide) (by decide)]; rfl
theorem Mo.k230 (q : Mo h) : kc h 230 = 8 := by unfold kc; rw [q.1 230 (by decide) (by decide)]; rfl
theorem Mo.l230 (q : Mo h) : kl h 230 = 444 := by unfold kl; rw [q.1 230 (by decide) (by decide)]; rfl
theorem Mo.k231 (q : Mo h) : kc h 231 = 8 := by unfold kc; rw [q.1 231 (by decide) (by decide)]; rfl
theorem Mo.l231 (q : Mo h) : kl h 231 = 2 := by unfold kl; rw [q.1 231 (by decide) (by decide)]; rfl
theorem Mo.k232 (q : Mo h) : kc h 232 = 9 := by unfold kc; rw [q.1 232 (by decide) (by decide)]; rfl
theorem Mo.l232 (q : Mo h) : kl h 232 = 12800 := by unfold kl; rw [q.1 232 (by decide) (by decide)]; rfl
theorem Mo.k233 (q : Mo h) : kc h 233 = 10 := by unfold kc; rw [q.1 233 (by decide) (by decide)]; rfl
theorem Mo.l233 (q : Mo h) : kl h 233 = 3200 := by unfold kl; rw [q.1 233 (by decide) (by decide)]; rfl
theorem Mo.k234 (q : Mo h) : kc h 234 = 10 := by unfold kc; rw [q.1 234 (by decide) (by decide)]; rfl
theorem Mo.l234 (q : Mo h) : kl h 234 = 2 := by unfold kl; rw [q.1 234 (by decide) (by decide)]; rfl
theorem Mo.k235 (q : Mo h) : kc h 235 = 8 := by unfold kc; rw [q.1 235 (by decide) (by decide)]; rfl
theorem Mo.l235 (q : Mo h) : kl h 235 = 700 := by unfold kl; rw [q.1 235 (by decide) (by decide)]; rfl
theorem Mo.k236 (q : Mo h) : kc h 236 = 8 := by unfold kc; rw [q.1 236 (by decide) (by decide)]; rfl
theorem Mo.l236 (q : Mo h) : kl h 236 = 700 := by unfold kl; rw [q.1 236 (by decide) (by decide)]; rfl
theorem Mo.k237 (q : Mo h) : kc h 237 = 9 := by unfold kc; rw [q.1 237 (by decide) (by decide)]; rfl
theorem Mo.l237 (q : Mo h) : kl h 237 = 700 := by unfold kl; rw [q.1 237 (by decide) (by decide)]; rfl
theorem Mo.k238 (q : Mo h) : kc h 238 = 9 := by unfold kc; rw [q.1 238 (by decide) (by decide)]; rfl
theorem Mo.l238 (q : Mo h) : kl h 238 = 700 := by unfold kl; rw [q.1 238 (by decide) (by decide)]; rfl
theorem Mo.k239 (q : Mo h) : kc h 239 = 9 := by unfold kc; rw [q.1 239 (by decide) (by decide)]; rfl
theorem Mo.l239 (q : Mo h) : kl h 239 = 700 := by unfold kl; rw [q.1 239 (by decide) (by decide)]; rfl
theorem Mo.k240 (q : Mo h) : kc h 240 = 8 := by unfold kc; rw [q.1 240 (by decide) (by decide)]; rfl
theorem Mo.l240 (q : Mo h) : kl h 240 = 96 := by unfold kl; rw [q.1 240 (by decide) (by decide)]; rfl
theorem Mo.k241 (q : Mo h) : kc h 241 = 9 := by unfold kc; rw [q.1 241 (by decide) (by decide)]; rfl
theorem Mo.l241 (q : Mo h) : kl h 241 = 16000 := by unfold kl; rw [q.1 241 (by decide) (by decide)]; rfl
theorem Mo.k242 (q : Mo h) : kc h 242 = 9 := by unfold kc; rw [q.1 242 (by decide) (by decide)]; rfl
theorem Mo.l242 (q : Mo h) : kl h 242 = 16000 := by unfold kl; rw [q.1 242 (by decide) (by decide)]; rfl
theorem Mo.k243 (q : Mo h) : kc h 243 = 9 := by unfold kc; rw [q.1 243 (by decide) (by decide)]; rfl
theorem Mo.l243 (q : Mo h) : kl h 243 = 8000 := by unfold kl; rw [q.1 243 (by decide) (by decide)]; rfl
theorem Mo.k244 (q : Mo h) : kc h 244 = 8 := by unfold kc; rw [q.1 244 (by decide) (by decide)]; rfl
theorem Mo.l244 (q : Mo h) : kl h 244 = 13 := by unfold kl; rw [q.1 244 (by decide) (by decide)]; rfl
theorem Mo.k245 (q : Mo h) : kc h 245 = 8 := by unfold kc; rw [q.1 245 (by decide) (by decide)]; rfl
theorem Mo.l245 (q : Mo h) : kl h 245 = 13 := by unfold kl; rw [q.1 245 (by decide) (by decide)]; rfl
theorem Mo.k246 (q : Mo h) : kc h 246 = 11 := by unfold kc; rw [q.1 246 (by decide) (by decide)]; rfl
theorem Mo.l246 (q : Mo h) : kl h 246 = 400 := by unfold kl; rw [q.1 246 (by decide) (by decide)]; rfl
theorem Mo.k247 (q : Mo h) : kc h 247 = 8 := by unfold kc; rw [q.1 247 (by decide) (by decide)]; rfl
theorem Mo.l247 (q : Mo h) : kl h 247 = 12 := by unfold kl; rw [q.1 247 (by decide) (by decide)]; rfl
theorem Mo.k248 (q : Mo h) : kc h 248 = 8 := by unfold kc; rw [q.1 248 (by decide) (by decide)]; rfl
theorem Mo.l248 (q : Mo h) : kl h 248 = 12 := by unfold kl; rw [q.1 248 (by decide) (by decide)]; rfl
theorem Mo.k249 (q : Mo h) : kc h 249 = 10 := by unfold kc; rw [q.1 249 (by decide) (by decide)]; rfl
theorem Mo.l249 (q : Mo h) : kl h 249 = 12 := by unfold kl; rw [q.1 249 (by decide) (by decide)]; rfl
theorem Mo.r2 (q : Mo h) : hR h 220 2 = 221 := q.2 2
theorem Mo.r3 (q : Mo h) : hR h 220 3 = 222 := q.2 3
theorem Mo.r5 (q : Mo h) : hR h 220 5 = 223 := q.2 5
theorem Mo.r6 (q : Mo h) : hR h 220 6 = 224 := q.2 6
theorem Mo.r7 (q : Mo h) : hR h 220 7 = 225 := q.2 7
theorem Mo.r8 (q : Mo h) : hR h 220 8 = 226 := q.2 8
theorem Mo.r9 (q : Mo h) : hR h 220 9 = 227 := q.2 9
theorem Mo.r10 (q : Mo h) : hR h 220 10 = 228 := q.2 10
theorem Mo.r11 (q : Mo h) : hR h 220 11 = 229 := q.2 11
theorem Mo.r13 (q : Mo h) : hR h 220 13 = 230 := q.2 13
theorem Mo.r14 (q : Mo h) : hR h 220 14 = 231 := q.2 14
theorem Mo.r15 (q : Mo h) : hR h 220 15 = 232 := q.2 15
theorem Mo.r16 (q : Mo h) : hR h 220 16 = 233 := q.2 16
theorem Mo.r17 (q : Mo h) : hR h 220 17 = 234 := q.2 17
theorem Mo.r20 (q : Mo h) : hR h 220 20 = 235 := q.2 20
theorem Mo.r21 (q : Mo h) : hR h 220 21 = 236 := q.2 21
theorem Mo.r22 (q : Mo h) : hR h 220 22 = 237 := q.2 22
theorem Mo.r23 (q : Mo h) : hR h 220 23 = 238 := q.2 23
theorem Mo.r24 (q : Mo h) : hR h 220 24 = 239 := q.2 24
theorem Mo.r25 (q : Mo h) : hR h 220 25 = 240 := q.2 25
theorem Mo.r28 (q : Mo h) : hR h 220 28 = 241 := q.2 28
theorem Mo.r29 (q : Mo h) : hR h 220 29 = 242 := q.2 29
theorem Mo.r32 (q : Mo h) : hR h 220 32 = 243 := q.2 32
theorem Mo.r33 (q : Mo h) : hR h 220 33 = 244 := q.2 33
theorem Mo.r34 (q : Mo h) : hR h 220 34 = 245 := q.2 34
theorem Mo.r35 (q : Mo h) : hR h 220 35 = 246 := q.2 35
theorem Mo.r41 (q : Mo h) : hR h 220 41 = 247 := q.2 41
theorem Mo.r42 (q : Mo h) : hR h 220 42 = 248 := q.2 42
theorem Mo.r43 (q : Mo h) : hR h 220 43 = 249 := q.2 43
end MO
theorem kc_sI (h : xH) (r k : Nat) (v : Int32) (r' : Nat) : kc (sI h r k v) r' = kc h r' := rfl
theorem kc_sJ (h : xH) (r k : Nat) (v : Int64) (r' : Nat) : kc (sJ h r k v) r' = kc h r' := rfl
theorem kc_sR (h : xH) (r k : Nat) (v : Nat) (r' : Nat) : kc (sR h r k v) r' = kc h r' := rfl
theorem kl_sI (h : xH) (r k : Nat) (v : Int32) (r' : Nat) : kl (sI h r k v) r' = kl h r' := rfl
theorem kl_sJ (h : xH) (r k : Nat) (v : Int64) (r' : Nat) : kl (sJ h r k v) r' = kl h r' := rfl
theorem kl_sR (h : xH) (r k : Nat) (v : Nat) (r' : Nat) : kl (sR h r k v) r' = kl h r' := rfl
theorem hR_sI (h : xH) (r k : Nat) (v : Int32) (r' k' : Nat) : hR (sI h r k v) r' k' = hR h r' k' := rfl
theorem hR_sJ (h : xH) (r k : Nat) (v : Int64) (r' k' : Nat) : hR (sJ h r k v) r' k' = hR h r' k' := rfl
theorem hJ_sI (h : xH) (r k : Nat) (v : Int32) (r' k' : Nat) : hJ (sI h r k v) r' k' = hJ h r' k' := rfl
theorem hI_sJ (h : xH) (r k : Nat) (v : Int64) (r' k' : Nat) : hI (sJ h r k v) r' k' = hI h r' k' := rfl
theorem hI_sR (h : xH) (r k : Nat) (v : Nat) (r' k' : Nat) : hI (sR h r k v) r' k' = hI h r' k' := rfl
theorem hJ_sR (h : xH) (r k : Nat) (v : Nat) (r' k' : Nat) : hJ (sR h r k v) r' k' = hJ h r' k' := rfl
theorem hI_sI (h : xH) (r k : Nat) (v : Int32) (r' k' : Nat) : hI (sI h r k v) r' k' = if r' = r ∧ k' = k then v else hI h r' k' := rfl
theorem hJ_sJ (h : xH) (r k : Nat) (v : Int64) (r' k' : Nat) : hJ (sJ h r k v) r' k' = if r' = r ∧ k' = k then v else hJ h r' k' := rfl
theorem hR_sR (h : xH) (r k : Nat) (v : Nat) (r' k' : Nat) : hR (sR h r k v) r' k' = if r' = r ∧ k' = k then v else hR h r' k' := rfl
theorem ix_i {z : Int} {n : Nat} (h1 : 0 ≤ z) (h2 : z < n) (h3 : n ≤ 2147483647) : ix (i32 z) n := by
  intro q
  have e := i32_nat h1 (by omega)
  rcases q with q | q
  · have := (i32_lt (a := z) (b := 0) ⟨by omega, by omega⟩ ⟨by decide, by decide⟩).mp q
    omega
  · rw [e] at q; omega
theorem nat_i (n : Nat) (h : n ≤ 2147483647) : (i32 (n : Int)).toNatClampNeg = n := by rw [i32_nat (by omega) (by omega)]; omega
