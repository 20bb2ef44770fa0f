abbrev kL_law (n : Nat) (xs : Nat → Int32) : xK := (cL_law, RL, "law", 4, 9, 258, ((some .boolean) : Option FieldType), (some (n, xs)))
def fL_law_b1293 (n : Nat) (xs : Nat → Int32) (r18 : Nat → Nat → Nat → Int32 → xH → Option (Int32 × xH))  (a0 : Nat) (a1 : Nat) (a2 : Nat) (a3 : Int32) (h : xH) : Option (Int32 × xH) :=
  lt (a3 + (6 : Int32)) (fun v1 =>
  r18 a0 a1 a2 v1 h)
def fL_law_b18 (n : Nat) (xs : Nat → Int32) (r18 : Nat → Nat → Nat → Int32 → xH → Option (Int32 × xH))  (a0 : Nat) (a1 : Nat) (a2 : Nat) (a3 : Int32) (h : xH) : Option (Int32 × xH) :=
  if kc h a0 = 8 then
  if ((Int32.ofNat (kl h a0)) - (6 : Int32)) < a3 then (
  some ((1 : Int32), h))
  else (
  if ix a3 (kl h a0) then
  lt ((hI h a0 a3.toNatClampNeg) &&& (63 : Int32)) (fun v3 =>
  if v3 = (0 : Int32) then
  (if ix (a3 + (1 : Int32)) (kl h a0) then
  if ix (a3 + (2 : Int32)) (kl h a0) then
  if ix (a3 + (3 : Int32)) (kl h a0) then
  if ix (a3 + (4 : Int32)) (kl h a0) then
  if ix (a3 + (5 : Int32)) (kl h a0) then
  if kc h a1 = 6 then
  bd (fX6_feed a1 (hI h a0 (a3 + (1 : Int32)).toNatClampNeg) (hI h a0 (a3 + (2 : Int32)).toNatClampNeg) (hI h a0 (a3 + (3 : Int32)).toNatClampNeg) (hI h a0 (a3 + (4 : Int32)).toNatClampNeg) (hI h a0 (a3 + (5 : Int32)).toNatClampNeg) h) (fun w428 g426 =>
  if ix (a3 + (1 : Int32)) (kl g426 a0) then
  if ix (a3 + (2 : Int32)) (kl g426 a0) then
  if ix (a3 + (3 : Int32)) (kl g426 a0) then
  if ix (a3 + (4 : Int32)) (kl g426 a0) then
  if ix (a3 + (5 : Int32)) (kl g426 a0) then
  if kc g426 a2 = 7 then
  bd (fX7_feed a2 (hI g426 a0 (a3 + (1 : Int32)).toNatClampNeg) (hI g426 a0 (a3 + (2 : Int32)).toNatClampNeg) (hI g426 a0 (a3 + (3 : Int32)).toNatClampNeg) (hI g426 a0 (a3 + (4 : Int32)).toNatClampNeg) (hI g426 a0 (a3 + (5 : Int32)).toNatClampNeg) g426) (fun w438 g436 =>
  if w428 = w438 then (
  fL_law_b1293 r18 a0 a1 a2 a3 g436)
  else (
  some ((0 : Int32), g436)))
  else none
  else none
  else none
  else none
  else none
  else none)
  else none
  else none
  else none
  else none
  else none
  else none)
  else (
  if v3 = (1 : Int32) then
  (if ix (a3 + (1 : Int32)) (kl h a0) then
  if kc h a1 = 6 then
  bd (fX6_end a1 (hI h a0 (a3 + (1 : Int32)).toNatClampNeg) h) (fun w413 g411 =>
  if ix (a3 + (1 : Int32)) (kl g411 a0) then
  if kc g411 a2 = 7 then
  bd (fX7_end_ a2 (hI g411 a0 (a3 + (1 : Int32)).toNatClampNeg) g411) (fun w419 g417 =>
  if w413 = w419 then (
  fL_law_b1293 r18 a0 a1 a2 a3 g417)
  else (
  some ((0 : Int32), g417)))
  else none
  else none)
  else none
  else none)
  else (
  if v3 = (2 : Int32) then
  (if ix (a3 + (1 : Int32)) (kl h a0) then
  if kc h a1 = 6 then
  bd (fX6_read a1 (hI h a0 (a3 + (1 : Int32)).toNatClampNeg) h) (fun w402 g400 =>
  if ix (a3 + (1 : Int32)) (kl g400 a0) then
  if kc g400 a2 = 7 then
  bd (fX7_read a2 (hI g400 a0 (a3 + (1 : Int32)).toNatClampNeg) g400) (fun w408 g406 =>
  if w402 = w408 then (
  fL_law_b1293 r18 a0 a1 a2 a3 g406)
  else (
  some ((0 : Int32), g406)))
  else none
  else none)
  else none
  else none)
  else (
  if v3 = (3 : Int32) then
  (if kc h a1 = 6 then
  bd (fX6_fault a1 h) (fun w393 g391 =>
  if kc g391 a2 = 7 then
  bd (fX7_fault a2 g391) (fun w397 g395 =>
  if w393 = w397 then (
  fL_law_b1293 r18 a0 a1 a2 a3 g395)
  else (
  some ((0 : Int32), g395)))
  else none)
  else none)
  else (
  if v3 = (4 : Int32) then
  (if ix (a3 + (1 : Int32)) (kl h a0) then
  if ix (a3 + (2 : Int32)) (kl h a0) then
  if ix (a3 + (3 : Int32)) (kl h a0) then
  if kc h a1 = 6 then
  bd (fX6_dot a1 (hI h a0 (a3 + (1 : Int32)).toNatClampNeg) (hI h a0 (a3 + (2 : Int32)).toNatClampNeg) (hI h a0 (a3 + (3 : Int32)).toNatClampNeg) h) (fun w381 g379 =>
  if ix (a3 + (1 : Int32)) (kl g379 a0) then
  if ix (a3 + (2 : Int32)) (kl g379 a0) then
  if ix (a3 + (3 : Int32)) (kl g379 a0) then
  if kc g379 a2 = 7 then
  bd (fX7_dot a2 (hI g379 a0 (a3 + (1 : Int32)).toNatClampNeg) (hI g379 a0 (a3 + (2 : Int32)).toNatClampNeg) (hI g379 a0 (a3 + (3 : Int32)).toNatClampNeg) g379) (fun w389 g387 =>
  if w381 = w389 then (
  fL_law_b1293 r18 a0 a1 a2 a3 g387)
  else (
  some ((0 : Int32), g387)))
  else none
  else none
  else none
  else none)
  else none
  else none
  else none
  else none)
  else (
  if v3 = (5 : Int32) then
  (if ix (a3 + (1 : Int32)) (kl h a0) then
  if kc h a1 = 6 then
  bd (fX6_clear a1 (hI h a0 (a3 + (1 : Int32)).toNatClampNeg) h) (fun w368 g366 =>
  if ix (a3 + (1 : Int32)) (kl g366 a0) then
  if kc g366 a2 = 7 then
  bd (fX7_clear a2 (hI g366 a0 (a3 + (1 : Int32)).toNatClampNeg) g366) (fun w374 g372 =>
  if w368 = w374 then (
  fL_law_b1293 r18 a0 a1 a2 a3 g372)
  else (
  some ((0 : Int32), g372)))
  else none
  else none)
  else none
  else none)
  else (
  if v3 = (6 : Int32) then
  (if ix (a3 + (1 : Int32)) (kl h a0) then
  if ix (a3 + (2 : Int32)) (kl h a0) then
  if kc h a1 = 6 then
  bd (fX6_sum a1 (hI h a0 (a3 + (1 : Int32)).toNatClampNeg) (hI h a0 (a3 + (2 : Int32)).toNatClampNeg) h) (fun w356 g354 =>
  if ix (a3 + (1 : Int32)) (kl g354 a0) then
  if ix (a3 + (2 : Int32)) (kl g354 a0) then
  if kc g354 a2 = 7 then
  bd (fX7_sum a2 (hI g354 a0 (a3 + (1 : Int32)).toNatClampNeg) (hI g354 a0 (a3 + (2 : Int32)).toNatClampNeg) g354) (fun w363 g361 =>
  if w356 = w363 then (
  fL_law_b1293 r18 a0 a1 a2 a3 g361)
  else (
  some ((0 : Int32), g361)))
  else none
  else none
  else none)
  else none
  else none
  else none)
  else (
  if v3 = (7 : Int32) then
  (if ix (a3 + (1 : Int32)) (kl h a0) then
  if ix (a3 + (2 : Int32)) (kl h a0) then
  if kc h a1 = 6 then
  bd (fX6_under a1 (hI h a0 (a3 + (1 : Int32)).toNatClampNeg) (hI h a0 (a3 + (2 : Int32)).toNatClampNeg) h) (fun w343 g341 =>
  if ix (a3 + (1 : Int32)) (kl g341 a0) then
  if ix (a3 + (2 : Int32)) (kl g341 a0) then
  if kc g341 a2 = 7 then
  bd (fX7_under_ a2 (hI g341 a0 (a3 + (1 : Int32)).toNatClampNeg) (hI g341 a0 (a3 + (2 : Int32)).toNatClampNeg) g341) (fun w350 g348 =>
  if w343 = w350 then (
  fL_law_b1293 r18 a0 a1 a2 a3 g348)
  else (
  some ((0 : Int32), g348)))
  else none
  else none
  else none)
  else none
  else none
  else none)
  else (
  if v3 = (8 : Int32) then
  (if ix (a3 + (1 : Int32)) (kl h a0) then
  if ix (a3 + (2 : Int32)) (kl h a0) then
  if kc h a1 = 6 then
  bd (fX6_join a1 (hI h a0 (a3 + (1 : Int32)).toNatClampNeg) (hI h a0 (a3 + (2 : Int32)).toNatClampNeg) h) (fun w330 g328 =>
  if ix (a3 + (1 : Int32)) (kl g328 a0) then
  if ix (a3 + (2 : Int32)) (kl g328 a0) then
  if kc g328 a2 = 7 then
  bd (fX7_join a2 (hI g328 a0 (a3 + (1 : Int32)).toNatClampNeg) (hI g328 a0 (a3 + (2 : Int32)).toNatClampNeg) g328) (fun w337 g335 =>
  if w330 = w337 then (
  fL_law_b1293 r18 a0 a1 a2 a3 g335)
  else (
  some ((0 : Int32), g335)))
  else none
  else none
  else none)
  else none
  else none
  else none)
  else (
  if v3 = (9 : Int32) then
  (if ix (a3 + (1 : Int32)) (kl h a0) then
  if kc h a1 = 6 then
  bd (fX6_turn a1 (hI h a0 (a3 + (1 : Int32)).toNatClampNeg) h) (fun w318 g316 =>
  if ix (a3 + (1 : Int32)) (kl g316 a0) then
  if kc g316 a2 = 7 then
  bd (fX7_turn a2 (hI g316 a0 (a3 + (1 : Int32)).toNatClampNeg) g316) (fun w324 g322 =>
  if w318 = w324 then (
  fL_law_b1293 r18 a0 a1 a2 a3 g322)
  else (
  some ((0 : Int32), g322)))
  else none
  else none)
  else none
  else none)
  else (
  if v3 = (10 : Int32) then
  (if ix (a3 + (1 : Int32)) (kl h a0) then
  if kc h a1 = 6 then
  bd (fX6_hull a1 (hI h a0 (a3 + (1 : Int32)).toNatClampNeg) h) (fun w307 g305 =>
  if ix (a3 + (1 : Int32)) (kl g305 a0) then
  if kc g305 a2 = 7 then
  bd (fX7_hull a2 (hI g305 a0 (a3 + (1 : Int32)).toNatClampNeg) g305) (fun w313 g311 =>
  if w307 = w313 then (
  fL_law_b1293 r18 a0 a1 a2 a3 g311)
  else (
  some ((0 : Int32), g311)))
  else none
  else none)
  else none
  else none)
  else (
  if v3 = (11 : Int32) then
  (if ix (a3 + (1 : Int32)) (kl h a0) then
  if ix (a3 + (2 : Int32)) (kl h a0) then
  if ix (a3 + (3 : Int32)) (kl h a0) then
  if kc h a1 = 6 then
  bd (fX6_cut a1 (hI h a0 (a3 + (1 : Int32)).toNatClampNeg) (hI h a0 (a3 + (2 : Int32)).toNatClampNeg) (hI h a0 (a3 + (3 : Int32)).toNatClampNeg) h) (fun w294 g292 =>
  if ix (a3 + (1 : Int32)) (kl g292 a0) then
  if ix (a3 + (2 : Int32)) (kl g292 a0) then
  if ix (a3 + (3 : Int32)) (kl g292 a0) then
  if kc g292 a2 = 7 then
  bd (fX7_cut a2 (hI g292 a0 (a3 + (1 : Int32)).toNatClampNeg) (hI g292 a0 (a3 + (2 : Int32)).toNatClampNeg) (hI g292 a0 (a3 + (3 : Int32)).toNatClampNeg) g292) (fun w302 g300 =>
  if w294 = w302 then (
  fL_law_b1293 r18 a0 a1 a2 a3 g300)
  else (
  some ((0 : Int32), g300)))
  else none
  else none
  else none
  else none)
  else none
  else none
  else none
  else none)
  else (
  if v3 = (12 : Int32) then
  (if ix (a3 + (1 : Int32)) (kl h a0) then
  if ix (a3 + (2 : Int32)) (kl h a0) then
  if ix (a3 + (3 : Int32)) (kl h a0) then
  if kc h a1 = 6 then
  bd (fX6_move a1 (hI h a0 (a3 + (1 : Int32)).toNatClampNeg) (hI h a0 (a3 + (2 : Int32)).toNatClampNeg) (hI h a0 (a3 + (3 : Int32)).toNatClampNeg) h) (fun w279 g277 =>
  if ix (a3 + (1 : Int32)) (kl g277 a0) then
  if ix (a3 + (2 : Int32)) (kl g277 a0) then
  if ix (a3 + (3 : Int32)) (kl g277 a0) then
  if kc g277 a2 = 7 then
  bd (fX7_move a2 (hI g277 a0 (a3 + (1 : Int32)).toNatClampNeg) (hI g277 a0 (a3 + (2 : Int32)).toNatClampNeg) (hI g277 a0 (a3 + (3 : Int32)).toNatClampNeg) g277) (fun w287 g285 =>
  if w279 = w287 then (
  fL_law_b1293 r18 a0 a1 a2 a3 g285)
  else (
  some ((0 : Int32), g285)))
  else none
  else none
  else none
  else none)
  else none
  else none
  else none
  else none)
  else (
  if v3 = (13 : Int32) then
  (if ix (a3 + (1 : Int32)) (kl h a0) then
  if ix (a3 + (2 : Int32)) (kl h a0) then
  if kc h a1 = 6 then
  bd (fX6_times a1 (hI h a0 (a3 + (1 : Int32)).toNatClampNeg) (hI h a0 (a3 + (2 : Int32)).toNatClampNeg) h) (fun w265 g263 =>
  if ix (a3 + (1 : Int32)) (kl g263 a0) then
  if ix (a3 + (2 : Int32)) (kl g263 a0) then
  if kc g263 a2 = 7 then
  bd (fX7_times a2 (hI g263 a0 (a3 + (1 : Int32)).toNatClampNeg) (hI g263 a0 (a3 + (2 : Int32)).toNatClampNeg) g263) (fun w272 g270 =>
  if w265 = w272 then (
  fL_law_b1293 r18 a0 a1 a2 a3 g270)
  else (
  some ((0 : Int32), g270)))
  else none
  else none
  else none)
  else none
  else none
  else none)
  else (
  if v3 = (14 : Int32) then
  (if ix (a3 + (1 : Int32)) (kl h a0) then
  if kc h a1 = 6 then
  bd (fX6_lay a1 (hI h a0 (a3 + (1 : Int32)).toNatClampNeg) h) (fun w253 g251 =>
  if ix (a3 + (1 : Int32)) (kl g251 a0) then
  if kc g251 a2 = 7 then
  bd (fX7_lay_ a2 (hI g251 a0 (a3 + (1 : Int32)).toNatClampNeg) g251) (fun w259 g257 =>
  if w253 = w259 then (
  fL_law_b1293 r18 a0 a1 a2 a3 g257)
  else (
  some ((0 : Int32), g257)))
  else none
  else none)
  else none
  else none)
  else (
  if v3 = (15 : Int32) then
  (if ix (a3 + (1 : Int32)) (kl h a0) then
  if kc h a1 = 6 then
  bd (fX6_put a1 (hI h a0 (a3 + (1 : Int32)).toNatClampNeg) h) (fun w242 g240 =>
  if ix (a3 + (1 : Int32)) (kl g240 a0) then
  if kc g240 a2 = 7 then
  bd (fX7_put a2 (hI g240 a0 (a3 + (1 : Int32)).toNatClampNeg) g240) (fun w248 g246 =>
  if w242 = w248 then (
  fL_law_b1293 r18 a0 a1 a2 a3 g246)
  else (
  some ((0 : Int32), g246)))
  else none
  else none)
  else none
  else none)
  else (
  if v3 = (16 : Int32) then
  (if kc h a1 = 6 then
  bd (fX6_undo a1 h) (fun w233 g231 =>
  if kc g231 a2 = 7 then
  bd (fX7_undo a2 g231) (fun w237 g235 =>
  if w233 = w237 then (
  fL_law_b1293 r18 a0 a1 a2 a3 g235)
  else (
  some ((0 : Int32), g235)))
  else none)
  else none)
  else (
  if v3 = (17 : Int32) then
  (if ix (a3 + (1 : Int32)) (kl h a0) then
  if kc h a1 = 6 then
  bd (fX6_image a1 (hI h a0 (a3 + (1 : Int32)).toNatClampNeg) h) (fun w223 g221 =>
  if ix (a3 + (1 : Int32)) (kl g221 a0) then
  if kc g221 a2 = 7 then
  bd (fX7_image a2 (hI g221 a0 (a3 + (1 : Int32)).toNatClampNeg) g221) (fun w229 g227 =>
  if w223 = w229 then (
  fL_law_b1293 r18 a0 a1 a2 a3 g227)
  else (
  some ((0 : Int32), g227)))
  else none
  else none)
  else none
  else none)
  else (
  if v3 = (18 : Int32) then
  (if ix (a3 + (1 : Int32)) (kl h a0) then
  if kc h a1 = 6 then
  bd (fX6_back a1 (hI h a0 (a3 + (1 : Int32)).toNatClampNeg) h) (fun w212 g210 =>
  if ix (a3 + (1 : Int32)) (kl g210 a0) then
  if kc g210 a2 = 7 then
  bd (fX7_back a2 (hI g210 a0 (a3 + (1 : Int32)).toNatClampNeg) g210) (fun w218 g216 =>
  if w212 = w218 then (
  fL_law_b1293 r18 a0 a1 a2 a3 g216)
  else (
  some ((0 : Int32), g216)))
  else none
  else none)
  else none
  else none)
  else (
  if v3 = (19 : Int32) then
  (if ix (a3 + (1 : Int32)) (kl h a0) then
  if ix (a3 + (2 : Int32)) (kl h a0) then
  if kc h a1 = 6 then
  bd (fX6_paper a1 (hI h a0 (a3 + (1 : Int32)).toNatClampNeg) (hI h a0 (a3 + (2 : Int32)).toNatClampNeg) h) (fun w200 g198 =>
  if ix (a3 + (1 : Int32)) (kl g198 a0) then
  if ix (a3 + (2 : Int32)) (kl g198 a0) then
  if kc g198 a2 = 7 then
  bd (fX7_paper a2 (hI g198 a0 (a3 + (1 : Int32)).toNatClampNeg) (hI g198 a0 (a3 + (2 : Int32)).toNatClampNeg) g198) (fun w207 g205 =>
  if (lg_cmp w200 w207) = 0 then (
  fL_law_b1293 r18 a0 a1 a2 a3 g205)
  else (
  some ((0 : Int32), g205)))
  else none
  else none
  else none)
  else none
  else none
  else none)
  else (
  if v3 = (20 : Int32) then
  (if ix (a3 + (1 : Int32)) (kl h a0) then
  if ix (a3 + (2 : Int32)) (kl h a0) then
  if ix (a3 + (3 : Int32)) (kl h a0) then
  if kc h a1 = 6 then
  bd (fX6_knot a1 (hI h a0 (a3 + (1 : Int32)).toNatClampNeg) (hI h a0 (a3 + (2 : Int32)).toNatClampNeg) (hI h a0 (a3 + (3 : Int32)).toNatClampNeg) h) (fun w186 g184 =>
  if ix (a3 + (1 : Int32)) (kl g184 a0) then
  if ix (a3 + (2 : Int32)) (kl g184 a0) then
  if ix (a3 + (3 : Int32)) (kl g184 a0) then
  if kc g184 a2 = 7 then
  bd (fX7_knot_ a2 (hI g184 a0 (a3 + (1 : Int32)).toNatClampNeg) (hI g184 a0 (a3 + (2 : Int32)).toNatClampNeg) (hI g184 a0 (a3 + (3 : Int32)).toNatClampNeg) g184) (fun w194 g192 =>
  if w186 = w194 then (
  fL_law_b1293 r18 a0 a1 a2 a3 g192)
  else (
  some ((0 : Int32), g192)))
  else none
  else none
  else none
  else none)
  else none
  else none
  else none
  else none)
  else (
  if v3 = (21 : Int32) then
  (if ix (a3 + (1 : Int32)) (kl h a0) then
  if ix (a3 + (2 : Int32)) (kl h a0) then
  if ix (a3 + (3 : Int32)) (kl h a0) then
  if kc h a1 = 6 then
  bd (fX6_value a1 (hI h a0 (a3 + (1 : Int32)).toNatClampNeg) (hI h a0 (a3 + (2 : Int32)).toNatClampNeg) (hI h a0 (a3 + (3 : Int32)).toNatClampNeg) h) (fun w171 g169 =>
  if ix (a3 + (1 : Int32)) (kl g169 a0) then
  if ix (a3 + (2 : Int32)) (kl g169 a0) then
  if ix (a3 + (3 : Int32)) (kl g169 a0) then
  if kc g169 a2 = 7 then
  bd (fX7_value a2 (hI g169 a0 (a3 + (1 : Int32)).toNatClampNeg) (hI g169 a0 (a3 + (2 : Int32)).toNatClampNeg) (hI g169 a0 (a3 + (3 : Int32)).toNatClampNeg) g169) (fun w179 g177 =>
  if (lg_cmp w171 w179) = 0 then (
  fL_law_b1293 r18 a0 a1 a2 a3 g177)
  else (
  some ((0 : Int32), g177)))
  else none
  else none
  else none
  else none)
  else none
  else none
  else none
  else none)
  else (
  if v3 = (22 : Int32) then
  (if ix (a3 + (1 : Int32)) (kl h a0) then
  if ix (a3 + (2 : Int32)) (kl h a0) then
  if kc h a1 = 6 then
  bd (fX6_bits a1 (hI h a0 (a3 + (1 : Int32)).toNatClampNeg) (hI h a0 (a3 + (2 : Int32)).toNatClampNeg) h) (fun w157 g155 =>
  if ix (a3 + (1 : Int32)) (kl g155 a0) then
  if ix (a3 + (2 : Int32)) (kl g155 a0) then
  if kc g155 a2 = 7 then
  bd (fX7_bits a2 (hI g155 a0 (a3 + (1 : Int32)).toNatClampNeg) (hI g155 a0 (a3 + (2 : Int32)).toNatClampNeg) g155) (fun w164 g162 =>
  if w157 = w164 then (
  fL_law_b1293 r18 a0 a1 a2 a3 g162)
  else (
  some ((0 : Int32), g162)))
  else none
  else none
  else none)
  else none
  else none
  else none)
  else (
  if v3 = (23 : Int32) then
  (if ix (a3 + (1 : Int32)) (kl h a0) then
  if ix (a3 + (2 : Int32)) (kl h a0) then
  if ix (a3 + (3 : Int32)) (kl h a0) then
  if kc h a1 = 6 then
  bd (fX6_limit a1 (hI h a0 (a3 + (1 : Int32)).toNatClampNeg) (hI h a0 (a3 + (2 : Int32)).toNatClampNeg) (hI h a0 (a3 + (3 : Int32)).toNatClampNeg) h) (fun w143 g141 =>
  if ix (a3 + (1 : Int32)) (kl g141 a0) then
  if ix (a3 + (2 : Int32)) (kl g141 a0) then
  if ix (a3 + (3 : Int32)) (kl g141 a0) then
  if kc g141 a2 = 7 then
  bd (fX7_limit a2 (hI g141 a0 (a3 + (1 : Int32)).toNatClampNeg) (hI g141 a0 (a3 + (2 : Int32)).toNatClampNeg) (hI g141 a0 (a3 + (3 : Int32)).toNatClampNeg) g141) (fun w151 g149 =>
  if (lg_cmp w143 w151) = 0 then (
  fL_law_b1293 r18 a0 a1 a2 a3 g149)
  else (
  some ((0 : Int32), g149)))
  else none
  else none
  else none
  else none)
  else none
  else none
  else none
  else none)
  else (
  if v3 = (24 : Int32) then
  (if ix (a3 + (1 : Int32)) (kl h a0) then
  if ix (a3 + (2 : Int32)) (kl h a0) then
  if kc h a1 = 6 then
  bd (fX6_of a1 (hI h a0 (a3 + (1 : Int32)).toNatClampNeg) (hI h a0 (a3 + (2 : Int32)).toNatClampNeg) h) (fun w129 g127 =>
  if ix (a3 + (1 : Int32)) (kl g127 a0) then
  if ix (a3 + (2 : Int32)) (kl g127 a0) then
  if kc g127 a2 = 7 then
  bd (fX7_of a2 (hI g127 a0 (a3 + (1 : Int32)).toNatClampNeg) (hI g127 a0 (a3 + (2 : Int32)).toNatClampNeg) g127) (fun w136 g134 =>
  if w129 = w136 then (
  fL_law_b1293 r18 a0 a1 a2 a3 g134)
  else (
  some ((0 : Int32), g134)))
  else none
  else none
  else none)
  else none
  else none
  else none)
  else (
  if v3 = (25 : Int32) then
  (if ix (a3 + (1 : Int32)) (kl h a0) then
  if ix (a3 + (2 : Int32)) (kl h a0) then
  if kc h a1 = 6 then
  bd (fX6_least a1 (hI h a0 (a3 + (1 : Int32)).toNatClampNeg) (hI h a0 (a3 + (2 : Int32)).toNatClampNeg) h) (fun w116 g114 =>
  if ix (a3 + (1 : Int32)) (kl g114 a0) then
  if ix (a3 + (2 : Int32)) (kl g114 a0) then
  if kc g114 a2 = 7 then
  bd (fX7_least a2 (hI g114 a0 (a3 + (1 : Int32)).toNatClampNeg) (hI g114 a0 (a3 + (2 : Int32)).toNatClampNeg) g114) (fun w123 g121 =>
  if w116 = w123 then (
  fL_law_b1293 r18 a0 a1 a2 a3 g121)
  else (
  some ((0 : Int32), g121)))
  else none
  else none
  else none)
  else none
  else none
  else none)
  else (
  if v3 = (26 : Int32) then
  (if ix (a3 + (1 : Int32)) (kl h a0) then
  if ix (a3 + (2 : Int32)) (kl h a0) then
  if ix (a3 + (3 : Int32)) (kl h a0) then
  if kc h a1 = 6 then
  bd (fX6_slope a1 (hI h a0 (a3 + (1 : Int32)).toNatClampNeg) (hI h a0 (a3 + (2 : Int32)).toNatClampNeg) (hI h a0 (a3 + (3 : Int32)).toNatClampNeg) h) (fun w102 g100 =>
  if ix (a3 + (1 : Int32)) (kl g100 a0) then
  if ix (a3 + (2 : Int32)) (kl g100 a0) then
  if ix (a3 + (3 : Int32)) (kl g100 a0) then
  if kc g100 a2 = 7 then
  bd (fX7_slope a2 (hI g100 a0 (a3 + (1 : Int32)).toNatClampNeg) (hI g100 a0 (a3 + (2 : Int32)).toNatClampNeg) (hI g100 a0 (a3 + (3 : Int32)).toNatClampNeg) g100) (fun w110 g108 =>
  if (lg_cmp w102 w110) = 0 then (
  fL_law_b1293 r18 a0 a1 a2 a3 g108)
  else (
  some ((0 : Int32), g108)))
  else none
  else none
  else none
  else none)
  else none
  else none
  else none
  else none)
  else (
  if v3 = (27 : Int32) then
  (if ix (a3 + (1 : Int32)) (kl h a0) then
  if ix (a3 + (2 : Int32)) (kl h a0) then
  if kc h a1 = 6 then
  bd (fX6_area a1 (hI h a0 (a3 + (1 : Int32)).toNatClampNeg) (hI h a0 (a3 + (2 : Int32)).toNatClampNeg) h) (fun w88 g86 =>
  if ix (a3 + (1 : Int32)) (kl g86 a0) then
  if ix (a3 + (2 : Int32)) (kl g86 a0) then
  if kc g86 a2 = 7 then
  bd (fX7_area a2 (hI g86 a0 (a3 + (1 : Int32)).toNatClampNeg) (hI g86 a0 (a3 + (2 : Int32)).toNatClampNeg) g86) (fun w95 g93 =>
  if (lg_cmp w88 w95) = 0 then (
  fL_law_b1293 r18 a0 a1 a2 a3 g93)
  else (
  some ((0 : Int32), g93)))
  else none
  else none
  else none)
  else none
  else none
  else none)
  else (
  if v3 = (28 : Int32) then
  (if ix (a3 + (1 : Int32)) (kl h a0) then
  if ix (a3 + (2 : Int32)) (kl h a0) then
  if ix (a3 + (3 : Int32)) (kl h a0) then
  if kc h a1 = 6 then
  bd (fX6_where a1 (hI h a0 (a3 + (1 : Int32)).toNatClampNeg) (hI h a0 (a3 + (2 : Int32)).toNatClampNeg) (hI h a0 (a3 + (3 : Int32)).toNatClampNeg) h) (fun w74 g72 =>
  if ix (a3 + (1 : Int32)) (kl g72 a0) then
  if ix (a3 + (2 : Int32)) (kl g72 a0) then
  if ix (a3 + (3 : Int32)) (kl g72 a0) then
  if kc g72 a2 = 7 then
  bd (fX7_where a2 (hI g72 a0 (a3 + (1 : Int32)).toNatClampNeg) (hI g72 a0 (a3 + (2 : Int32)).toNatClampNeg) (hI g72 a0 (a3 + (3 : Int32)).toNatClampNeg) g72) (fun w82 g80 =>
  if (lg_cmp w74 w82) = 0 then (
  fL_law_b1293 r18 a0 a1 a2 a3 g80)
  else (
  some ((0 : Int32), g80)))
  else none
  else none
  else none
  else none)
  else none
  else none
  else none
  else none)
  else (
  if v3 = (29 : Int32) then
  (if ix (a3 + (1 : Int32)) (kl h a0) then
  if ix (a3 + (2 : Int32)) (kl h a0) then
  if ix (a3 + (3 : Int32)) (kl h a0) then
  if kc h a1 = 6 then
  bd (fX6_places a1 (hI h a0 (a3 + (1 : Int32)).toNatClampNeg) (hI h a0 (a3 + (2 : Int32)).toNatClampNeg) (hI h a0 (a3 + (3 : Int32)).toNatClampNeg) h) (fun w59 g57 =>
  if ix (a3 + (1 : Int32)) (kl g57 a0) then
  if ix (a3 + (2 : Int32)) (kl g57 a0) then
  if ix (a3 + (3 : Int32)) (kl g57 a0) then
  if kc g57 a2 = 7 then
  bd (fX7_places a2 (hI g57 a0 (a3 + (1 : Int32)).toNatClampNeg) (hI g57 a0 (a3 + (2 : Int32)).toNatClampNeg) (hI g57 a0 (a3 + (3 : Int32)).toNatClampNeg) g57) (fun w67 g65 =>
  if w59 = w67 then (
  fL_law_b1293 r18 a0 a1 a2 a3 g65)
  else (
  some ((0 : Int32), g65)))
  else none
  else none
  else none
  else none)
  else none
  else none
  else none
  else none)
  else (
  if v3 = (30 : Int32) then
  (if ix (a3 + (1 : Int32)) (kl h a0) then
  if ix (a3 + (2 : Int32)) (kl h a0) then
  if ix (a3 + (3 : Int32)) (kl h a0) then
  if ix (a3 + (4 : Int32)) (kl h a0) then
  if kc h a1 = 6 then
  bd (fX6_split a1 (hI h a0 (a3 + (1 : Int32)).toNatClampNeg) (hI h a0 (a3 + (2 : Int32)).toNatClampNeg) (hI h a0 (a3 + (3 : Int32)).toNatClampNeg) (hI h a0 (a3 + (4 : Int32)).toNatClampNeg) h) (fun w43 g41 =>
  if ix (a3 + (1 : Int32)) (kl g41 a0) then
  if ix (a3 + (2 : Int32)) (kl g41 a0) then
  if ix (a3 + (3 : Int32)) (kl g41 a0) then
  if ix (a3 + (4 : Int32)) (kl g41 a0) then
  if kc g41 a2 = 7 then
  bd (fX7_split a2 (hI g41 a0 (a3 + (1 : Int32)).toNatClampNeg) (hI g41 a0 (a3 + (2 : Int32)).toNatClampNeg) (hI g41 a0 (a3 + (3 : Int32)).toNatClampNeg) (hI g41 a0 (a3 + (4 : Int32)).toNatClampNeg) g41) (fun w52 g50 =>
  if (lg_cmp w43 w52) = 0 then (
  fL_law_b1293 r18 a0 a1 a2 a3 g50)
  else (
  some ((0 : Int32), g50)))
  else none
  else none
  else none
  else none
  else none)
  else none
  else none
  else none
  else none
  else none)
  else (
  if v3 = (31 : Int32) then
  (if ix (a3 + (1 : Int32)) (kl h a0) then
  if ix (a3 + (2 : Int32)) (kl h a0) then
  if kc h a1 = 6 then
  bd (fX6_compare a1 (hI h a0 (a3 + (1 : Int32)).toNatClampNeg) (hI h a0 (a3 + (2 : Int32)).toNatClampNeg) h) (fun w28 g26 =>
  if ix (a3 + (1 : Int32)) (kl g26 a0) then
  if ix (a3 + (2 : Int32)) (kl g26 a0) then
  if kc g26 a2 = 7 then
  bd (fX7_compare a2 (hI g26 a0 (a3 + (1 : Int32)).toNatClampNeg) (hI g26 a0 (a3 + (2 : Int32)).toNatClampNeg) g26) (fun w35 g33 =>
  if w28 = w35 then (
  fL_law_b1293 r18 a0 a1 a2 a3 g33)
  else (
  some ((0 : Int32), g33)))
  else none
  else none
  else none)
  else none
  else none
  else none)
  else (
  if v3 = (32 : Int32) then
  (if ix (a3 + (1 : Int32)) (kl h a0) then
  if kc h a1 = 6 then
  bd (fX6_count a1 (hI h a0 (a3 + (1 : Int32)).toNatClampNeg) h) (fun w16 g14 =>
  if ix (a3 + (1 : Int32)) (kl g14 a0) then
  if kc g14 a2 = 7 then
  bd (fX7_count a2 (hI g14 a0 (a3 + (1 : Int32)).toNatClampNeg) g14) (fun w22 g20 =>
  if w16 = w22 then (
  fL_law_b1293 r18 a0 a1 a2 a3 g20)
  else (
  some ((0 : Int32), g20)))
  else none
  else none)
  else none
  else none)
  else (
  if v3 = (33 : Int32) then
  (if kc h a1 = 6 then
  bd (fX6_status a1 h) (fun w7 g5 =>
  if kc g5 a2 = 7 then
  bd (fX7_status a2 g5) (fun w11 g9 =>
  if w7 = w11 then (
  fL_law_b1293 r18 a0 a1 a2 a3 g9)
  else (
  some ((0 : Int32), g9)))
  else none)
  else none)
  else (
  (fL_law_b1293 r18 a0 a1 a2 a3 h))))))))))))))))))))))))))))))))))))
  else none)
  else none
def fL_law_l18 (n : Nat) (xs : Nat → Int32)  : Nat → Nat → Nat → Nat → Int32 → xH → Option (Int32 × xH)
  | 0 => fun _ _ _ _ _ => none
  | k + 1 => fL_law_b18 n xs (fL_law_l18 n xs  k)
def fL_law (n : Nat) (xs : Nat → Int32)   (h : xH) : Option (Int32 × xH) :=
  lt (hnx h) (fun q2 => lt (hnew h 6 0) (fun g1 =>
  bd (fX6_init q2 g1) (fun _ g5 =>
  lt (hnx g5) (fun q8 => lt (hnew g5 7 0) (fun g7 =>
  bd (fX7_init q8 g7) (fun _ g11 =>
  lt (0 : Int32) (fun v13 =>
  fL_law_l18 FU 1 q2 q8 v13 g11)))))))
theorem pL_law_b1293 (n : Nat) (xs : Nat → Int32) {h0 : xH} {r18 : Nat → Nat → Nat → Int32 → xH → Option (Int32 × xH)} (hr18 : ∀  (a0 : Nat) (a1 : Nat) (a2 : Nat) (a3 : Int32) (g : xH), S emI (kL_law n xs) h0 18 [(0, .ref a0), (1, .ref a1), (2, .ref a2), (3, .int a3)] [] g (r18  a0 a1 a2 a3 g))  (a0 : Nat) (a1 : Nat) (a2 : Nat) (a3 : Int32) (h : xH) : S emI (kL_law n xs) h0 1293 [(0, .ref a0), (1, .ref a1), (2, .ref a2), (3, .int a3)] [] h (fL_law_b1293 n xs r18 a0 a1 a2 a3 h) := by
  unfold fL_law_b1293
  refine s_iinc (pc := 1293) (L' := [(3, .int (a3 + (6 : Int32))), (0, .ref a0), (1, .ref a1), (2, .ref a2)]) (i := 3) (n := 6) 3 rfl rfl (by decide) rfl (by decide +kernel) ?_
  refine s_nmI0 (e := a3 + (6 : Int32)) (L := fun v1 => [(3, .int v1), (0, .ref a0), (1, .ref a1), (2, .ref a2)]) (fun v1 => ?_)
  refine s_goto (pc := 1296) (off := -1278) 18 (by decide +kernel) (by decide) ?_
  refine S_sub [1, 2, 3, 0] rfl ?_
  exact hr18 a0 a1 a2 v1 h
theorem pL_law_b18 (n : Nat) (xs : Nat → Int32) {h0 : xH} {r18 : Nat → Nat → Nat → Int32 → xH → Option (Int32 × xH)} (hr18 : ∀  (a0 : Nat) (a1 : Nat) (a2 : Nat) (a3 : Int32) (g : xH), S emI (kL_law n xs) h0 18 [(0, .ref a0), (1, .ref a1), (2, .ref a2), (3, .int a3)] [] g (r18  a0 a1 a2 a3 g))  (a0 : Nat) (a1 : Nat) (a2 : Nat) (a3 : Int32) (h : xH) : S emI (kL_law n xs) h0 18 [(0, .ref a0), (1, .ref a1), (2, .ref a2), (3, .int a3)] [] h (fL_law_b18 n xs r18 a0 a1 a2 a3 h) := by
  unfold fL_law_b18
  refine s_iload_n (pc := 18) (k0 := 3) (i := 3) rfl 3 rfl (by decide +kernel) ?_
  refine s_aload_n (pc := 19) (k0 := 0) (i := 0) rfl 0 rfl (by decide +kernel) ?_
  refine S_gd (fun c1 => ?_)
  refine s_alen (pc := 20) (by rw [c1]; decide) (by decide +kernel) ?_
  refine s_bipush (pc := 21) (n := 6) (v := (6 : Int32)) (by decide) (by decide +kernel) ?_
  refine s_isub (pc := 23) (by decide +kernel) ?_
  refine s_icmp_gt (pc := 24) (off := 1275) 1299 (by decide +kernel) (by decide) (fun _ => ?_) (fun _ => ?_)
  · refine s_iconst (pc := 1299) (n := 1) (v := (1 : Int32)) (by decide) (by decide +kernel) ?_
    exact s_zret (pc := 1300) (by decide) rfl (by decide +kernel)
  · refine s_aload_n (pc := 27) (k0 := 0) (i := 0) rfl 0 rfl (by decide +kernel) ?_
    refine s_iload_n (pc := 28) (k0 := 3) (i := 3) rfl 3 rfl (by decide +kernel) ?_
    refine S_gd (fun c2 => ?_)
    refine s_iald (pc := 29) c1 c2 (by decide +kernel) ?_
    refine s_bipush (pc := 30) (n := 63) (v := (63 : Int32)) (by decide) (by decide +kernel) ?_
    refine s_iand (pc := 32) (by decide +kernel) ?_
    refine s_nmI (fun v3 => ?_)
    refine S_ite (fun e => ?_) (fun ne0 => ?_)
    · refine s_tableIn (pc := 33) (dflt := 1260) (lo := 0) (hi := 33) (offs := #[151, 214, 237, 260, 273, 316, 339, 372, 405, 438, 461, 484, 527, 570, 603, 626, 649, 662, 685, 708, 742, 785, 829, 862, 906, 939, 972, 1016, 1050, 1094, 1137, 1191, 1224, 1247]) (len := 151) (off := 151) 184 (by decide +kernel) (by rw [e]; decide) (by rw [e]; decide) (by rw [e]; rfl) (by decide) ?_
      refine s_aload_n (pc := 184) (k0 := 1) (i := 1) rfl 1 rfl (by decide +kernel) ?_
      refine s_aload_n (pc := 185) (k0 := 0) (i := 0) rfl 0 rfl (by decide +kernel) ?_
      refine s_iload_n (pc := 186) (k0 := 3) (i := 3) rfl 3 rfl (by decide +kernel) ?_
      refine s_iconst (pc := 187) (n := 1) (v := (1 : Int32)) (by decide) (by decide +kernel) ?_
      refine s_iadd (pc := 188) (by decide +kernel) ?_
      refine S_gd (fun c420 => ?_)
      refine s_iald (pc := 189) c1 c420 (by decide +kernel) ?_
      refine s_aload_n (pc := 190) (k0 := 0) (i := 0) rfl 0 rfl (by decide +kernel) ?_
      refine s_iload_n (pc := 191) (k0 := 3) (i := 3) rfl 3 rfl (by decide +kernel) ?_
      refine s_iconst (pc := 192) (n := 2) (v := (2 : Int32)) (by decide) (by decide +kernel) ?_
      refine s_iadd (pc := 193) (by decide +kernel) ?_
      refine S_gd (fun c421 => ?_)
      refine s_iald (pc := 194) c1 c421 (by decide +kernel) ?_
      refine s_aload_n (pc := 195) (k0 := 0) (i := 0) rfl 0 rfl (by decide +kernel) ?_
      refine s_iload_n (pc := 196) (k0 := 3) (i := 3) rfl 3 rfl (by decide +kernel) ?_
      refine s_iconst (pc := 197) (n := 3) (v := (3 : Int32)) (by decide) (by decide +kernel) ?_
      refine s_iadd (pc := 198) (by decide +kernel) ?_
      refine S_gd (fun c422 => ?_)
      refine s_iald (pc := 199) c1 c422 (by decide +kernel) ?_
      refine s_aload_n (pc := 200) (k0 := 0) (i := 0) rfl 0 rfl (by decide +kernel) ?_
      refine s_iload_n (pc := 201) (k0 := 3) (i := 3) rfl 3 rfl (by decide +kernel) ?_
      refine s_iconst (pc := 202) (n := 4) (v := (4 : Int32)) (by decide) (by decide +kernel) ?_
      refine s_iadd (pc := 203) (by decide +kernel) ?_
      refine S_gd (fun c423 => ?_)
      refine s_iald (pc := 204) c1 c423 (by decide +kernel) ?_
      refine s_aload_n (pc := 205) (k0 := 0) (i := 0) rfl 0 rfl (by decide +kernel) ?_
      refine s_iload_n (pc := 206) (k0 := 3) (i := 3) rfl 3 rfl (by decide +kernel) ?_
      refine s_iconst (pc := 207) (n := 5) (v := (5 : Int32)) (by decide) (by decide +kernel) ?_
      refine s_iadd (pc := 208) (by decide +kernel) ?_
      refine S_gd (fun c424 => ?_)
      refine s_iald (pc := 209) c1 c424 (by decide +kernel) ?_
      refine S_gd (fun c425 => ?_)
      refine s_cVi (pc := 210) [.int (hI h a0 (a3 + (1 : Int32)).toNatClampNeg), .int (hI h a0 (a3 + (2 : Int32)).toNatClampNeg), .int (hI h a0 (a3 + (3 : Int32)).toNatClampNeg), .int (hI h a0 (a3 + (4 : Int32)).toNatClampNeg), .int (hI h a0 (a3 + (5 : Int32)).toNatClampNeg)] (tX6_feed a1 (hI h a0 (a3 + (1 : Int32)).toNatClampNeg) (hI h a0 (a3 + (2 : Int32)).toNatClampNeg) (hI h a0 (a3 + (3 : Int32)).toNatClampNeg) (hI h a0 (a3 + (4 : Int32)).toNatClampNeg) (hI h a0 (a3 + (5 : Int32)).toNatClampNeg) h) c425 cw_L_13 rfl ⟨⟨Nat.le_of_ble_eq_true rfl, Nat.le_of_ble_eq_true rfl⟩, Nat.le_of_ble_eq_true rfl⟩ rfl (by decide +kernel) (fun w428 g426 e427 => ?_)
      refine s_aload_n (pc := 213) (k0 := 2) (i := 2) rfl 2 rfl (by decide +kernel) ?_
      refine s_aload_n (pc := 214) (k0 := 0) (i := 0) rfl 0 rfl (by decide +kernel) ?_
      refine s_iload_n (pc := 215) (k0 := 3) (i := 3) rfl 3 rfl (by decide +kernel) ?_
      refine s_iconst (pc := 216) (n := 1) (v := (1 : Int32)) (by decide) (by decide +kernel) ?_
      refine s_iadd (pc := 217) (by decide +kernel) ?_
      have c429 := kp e427 c1 (by decide)
      refine S_gd (fun c430 => ?_)
      refine s_iald (pc := 218) c429 c430 (by decide +kernel) ?_
      refine s_aload_n (pc := 219) (k0 := 0) (i := 0) rfl 0 rfl (by decide +kernel) ?_
      refine s_iload_n (pc := 220) (k0 := 3) (i := 3) rfl 3 rfl (by decide +kernel) ?_
      refine s_iconst (pc := 221) (n := 2) (v := (2 : Int32)) (by decide) (by decide +kernel) ?_
      refine s_iadd (pc := 222) (by decide +kernel) ?_
      refine S_gd (fun c431 => ?_)
      refine s_iald (pc := 223) c429 c431 (by decide +kernel) ?_
      refine s_aload_n (pc := 224) (k0 := 0) (i := 0) rfl 0 rfl (by decide +kernel) ?_
      refine s_iload_n (pc := 225) (k0 := 3) (i := 3) rfl 3 rfl (by decide +kernel) ?_
      refine s_iconst (pc := 226) (n := 3) (v := (3 : Int32)) (by decide) (by decide +kernel) ?_
      refine s_iadd (pc := 227) (by decide +kernel) ?_
      refine S_gd (fun c432 => ?_)
      refine s_iald (pc := 228) c429 c432 (by decide +kernel) ?_
      refine s_aload_n (pc := 229) (k0 := 0) (i := 0) rfl 0 rfl (by decide +kernel) ?_
      refine s_iload_n (pc := 230) (k0 := 3) (i := 3) rfl 3 rfl (by decide +kernel) ?_
      refine s_iconst (pc := 231) (n := 4) (v := (4 : Int32)) (by decide) (by decide +kernel) ?_
      refine s_iadd (pc := 232) (by decide +kernel) ?_
      refine S_gd (fun c433 => ?_)
      refine s_iald (pc := 233) c429 c433 (by decide +kernel) ?_
      refine s_aload_n (pc := 234) (k0 := 0) (i := 0) rfl 0 rfl (by decide +kernel) ?_
      refine s_iload_n (pc := 235) (k0 := 3) (i := 3) rfl 3 rfl (by decide +kernel) ?_
      refine s_iconst (pc := 236) (n := 5) (v := (5 : Int32)) (by decide) (by decide +kernel) ?_
      refine s_iadd (pc := 237) (by decide +kernel) ?_
      refine S_gd (fun c434 => ?_)
      refine s_iald (pc := 238) c429 c434 (by decide +kernel) ?_
      refine S_gd (fun c435 => ?_)
      refine s_cVi (pc := 239) [.int (hI g426 a0 (a3 + (1 : Int32)).toNatClampNeg), .int (hI g426 a0 (a3 + (2 : Int32)).toNatClampNeg), .int (hI g426 a0 (a3 + (3 : Int32)).toNatClampNeg), .int (hI g426 a0 (a3 + (4 : Int32)).toNatClampNeg), .int (hI g426 a0 (a3 + (5 : Int32)).toNatClampNeg)] (tX7_feed a2 (hI g426 a0 (a3 + (1 : Int32)).toNatClampNeg) (hI g426 a0 (a3 + (2 : Int32)).toNatClampNeg) (hI g426 a0 (a3 + (3 : Int32)).toNatClampNeg) (hI g426 a0 (a3 + (4 : Int32)).toNatClampNeg) (hI g426 a0 (a3 + (5 : Int32)).toNatClampNeg) g426) c435 cw_L_17 rfl ⟨⟨Nat.le_of_ble_eq_true rfl, Nat.le_of_ble_eq_true rfl⟩, Nat.le_of_ble_eq_true rfl⟩ rfl (by decide +kernel) (fun w438 g436 e437 => ?_)
      refine s_icmp_eq (pc := 242) (off := 1051) 1293 (by decide +kernel) (by decide) (fun _ => ?_) (fun _ => ?_)
      · exact pL_law_b1293 hr18 a0 a1 a2 a3 g436
      · refine s_iconst (pc := 245) (n := 0) (v := (0 : Int32)) (by decide) (by decide +kernel) ?_
        exact s_zret (pc := 246) (by decide) rfl (by decide +kernel)
    · refine S_ite (fun e => ?_) (fun ne1 => ?_)
      · refine s_tableIn (pc := 33) (dflt := 1260) (lo := 0) (hi := 33) (offs := #[151, 214, 237, 260, 273, 316, 339, 372, 405, 438, 461, 484, 527, 570, 603, 626, 649, 662, 685, 708, 742, 785, 829, 862, 906, 939, 972, 1016, 1050, 1094, 1137, 1191, 1224, 1247]) (len := 151) (off := 214) 247 (by decide +kernel) (by rw [e]; decide) (by rw [e]; decide) (by rw [e]; rfl) (by decide) ?_
        refine s_aload_n (pc := 247) (k0 := 1) (i := 1) rfl 1 rfl (by decide +kernel) ?_
        refine s_aload_n (pc := 248) (k0 := 0) (i := 0) rfl 0 rfl (by decide +kernel) ?_
        refine s_iload_n (pc := 249) (k0 := 3) (i := 3) rfl 3 rfl (by decide +kernel) ?_
        refine s_iconst (pc := 250) (n := 1) (v := (1 : Int32)) (by decide) (by decide +kernel) ?_
        refine s_iadd (pc := 251) (by decide +kernel) ?_
        refine S_gd (fun c409 => ?_)
        refine s_iald (pc := 252) c1 c409 (by decide +kernel) ?_
        refine S_gd (fun c410 => ?_)
        refine s_cVi (pc := 253) [.int (hI h a0 (a3 + (1 : Int32)).toNatClampNeg)] (tX6_end a1 (hI h a0 (a3 + (1 : Int32)).toNatClampNeg) h) c410 cw_L_18 rfl ⟨⟨Nat.le_of_ble_eq_true rfl, Nat.le_of_ble_eq_true rfl⟩, Nat.le_of_ble_eq_true rfl⟩ rfl (by decide +kernel) (fun w413 g411 e412 => ?_)
        refine s_aload_n (pc := 256) (k0 := 2) (i := 2) rfl 2 rfl (by decide +kernel) ?_
        refine s_aload_n (pc := 257) (k0 := 0) (i := 0) rfl 0 rfl (by decide +kernel) ?_
        refine s_iload_n (pc := 258) (k0 := 3) (i := 3) rfl 3 rfl (by decide +kernel) ?_
        refine s_iconst (pc := 259) (n := 1) (v := (1 : Int32)) (by decide) (by decide +kernel) ?_
        refine s_iadd (pc := 260) (by decide +kernel) ?_
        have c414 := kp e412 c1 (by decide)
        refine S_gd (fun c415 => ?_)
        refine s_iald (pc := 261) c414 c415 (by decide +kernel) ?_
        refine S_gd (fun c416 => ?_)
        refine s_cVi (pc := 262) [.int (hI g411 a0 (a3 + (1 : Int32)).toNatClampNeg)] (tX7_end_ a2 (hI g411 a0 (a3 + (1 : Int32)).toNatClampNeg) g411) c416 cw_L_22 rfl ⟨⟨Nat.le_of_ble_eq_true rfl, Nat.le_of_ble_eq_true rfl⟩, Nat.le_of_ble_eq_true rfl⟩ rfl (by decide +kernel) (fun w419 g417 e418 => ?_)
        refine s_icmp_eq (pc := 265) (off := 1028) 1293 (by decide +kernel) (by decide) (fun _ => ?_) (fun _ => ?_)
        · exact pL_law_b1293 hr18 a0 a1 a2 a3 g417
        · refine s_iconst (pc := 268) (n := 0) (v := (0 : Int32)) (by decide) (by decide +kernel) ?_
          exact s_zret (pc := 269) (by decide) rfl (by decide +kernel)
      · refine S_ite (fun e => ?_) (fun ne2 => ?_)
        · refine s_tableIn (pc := 33) (dflt := 1260) (lo := 0) (hi := 33) (offs := #[151, 214, 237, 260, 273, 316, 339, 372, 405, 438, 461, 484, 527, 570, 603, 626, 649, 662, 685, 708, 742, 785, 829, 862, 906, 939, 972, 1016, 1050, 1094, 1137, 1191, 1224, 1247]) (len := 151) (off := 237) 270 (by decide +kernel) (by rw [e]; decide) (by rw [e]; decide) (by rw [e]; rfl) (by decide) ?_
          refine s_aload_n (pc := 270) (k0 := 1) (i := 1) rfl 1 rfl (by decide +kernel) ?_
          refine s_aload_n (pc := 271) (k0 := 0) (i := 0) rfl 0 rfl (by decide +kernel) ?_
          refine s_iload_n (pc := 272) (k0 := 3) (i := 3) rfl 3 rfl (by decide +kernel) ?_
          refine s_iconst (pc := 273) (n := 1) (v := (1 : Int32)) (by decide) (by decide +kernel) ?_
          refine s_iadd (pc := 274) (by decide +kernel) ?_
          refine S_gd (fun c398 => ?_)
          refine s_iald (pc := 275) c1 c398 (by decide +kernel) ?_
          refine S_gd (fun c399 => ?_)
          refine s_cVi (pc := 276) [.int (hI h a0 (a3 + (1 : Int32)).toNatClampNeg)] (tX6_read a1 (hI h a0 (a3 + (1 : Int32)).toNatClampNeg) h) c399 cw_L_23 rfl ⟨⟨Nat.le_of_ble_eq_true rfl, Nat.le_of_ble_eq_true rfl⟩, Nat.le_of_ble_eq_true rfl⟩ rfl (by decide +kernel) (fun w402 g400 e401 => ?_)
          refine s_aload_n (pc := 279) (k0 := 2) (i := 2) rfl 2 rfl (by decide +kernel) ?_
          refine s_aload_n (pc := 280) (k0 := 0) (i := 0) rfl 0 rfl (by decide +kernel) ?_
          refine s_iload_n (pc := 281) (k0 := 3) (i := 3) rfl 3 rfl (by decide +kernel) ?_
          refine s_iconst (pc := 282) (n := 1) (v := (1 : Int32)) (by decide) (by decide +kernel) ?_
          refine s_iadd (pc := 283) (by decide +kernel) ?_
          have c403 := kp e401 c1 (by decide)
          refine S_gd (fun c404 => ?_)
          refine s_iald (pc := 284) c403 c404 (by decide +kernel) ?_
          refine S_gd (fun c405 => ?_)
          refine s_cVi (pc := 285) [.int (hI g400 a0 (a3 + (1 : Int32)).toNatClampNeg)] (tX7_read a2 (hI g400 a0 (a3 + (1 : Int32)).toNatClampNeg) g400) c405 cw_L_26 rfl ⟨⟨Nat.le_of_ble_eq_true rfl, Nat.le_of_ble_eq_true rfl⟩, Nat.le_of_ble_eq_true rfl⟩ rfl (by decide +kernel) (fun w408 g406 e407 => ?_)
          refine s_icmp_eq (pc := 288) (off := 1005) 1293 (by decide +kernel) (by decide) (fun _ => ?_) (fun _ => ?_)
          · exact pL_law_b1293 hr18 a0 a1 a2 a3 g406
          · refine s_iconst (pc := 291) (n := 0) (v := (0 : Int32)) (by decide) (by decide +kernel) ?_
            exact s_zret (pc := 292) (by decide) rfl (by decide +kernel)
        · refine S_ite (fun e => ?_) (fun ne3 => ?_)
          · refine s_tableIn (pc := 33) (dflt := 1260) (lo := 0) (hi := 33) (offs := #[151, 214, 237, 260, 273, 316, 339, 372, 405, 438, 461, 484, 527, 570, 603, 626, 649, 662, 685, 708, 742, 785, 829, 862, 906, 939, 972, 1016, 1050, 1094, 1137, 1191, 1224, 1247]) (len := 151) (off := 260) 293 (by decide +kernel) (by rw [e]; decide) (by rw [e]; decide) (by rw [e]; rfl) (by decide) ?_
            refine s_aload_n (pc := 293) (k0 := 1) (i := 1) rfl 1 rfl (by decide +kernel) ?_
            refine S_gd (fun c390 => ?_)
            refine s_cVi (pc := 294) [] (tX6_fault a1 h) c390 cw_L_27 rfl ⟨⟨Nat.le_of_ble_eq_true rfl, Nat.le_of_ble_eq_true rfl⟩, Nat.le_of_ble_eq_true rfl⟩ rfl (by decide +kernel) (fun w393 g391 e392 => ?_)
            refine s_aload_n (pc := 297) (k0 := 2) (i := 2) rfl 2 rfl (by decide +kernel) ?_
            refine S_gd (fun c394 => ?_)
            refine s_cVi (pc := 298) [] (tX7_fault a2 g391) c394 cw_L_31 rfl ⟨⟨Nat.le_of_ble_eq_true rfl, Nat.le_of_ble_eq_true rfl⟩, Nat.le_of_ble_eq_true rfl⟩ rfl (by decide +kernel) (fun w397 g395 e396 => ?_)
            refine s_icmp_eq (pc := 301) (off := 992) 1293 (by decide +kernel) (by decide) (fun _ => ?_) (fun _ => ?_)
            · exact pL_law_b1293 hr18 a0 a1 a2 a3 g395
            · refine s_iconst (pc := 304) (n := 0) (v := (0 : Int32)) (by decide) (by decide +kernel) ?_
              exact s_zret (pc := 305) (by decide) rfl (by decide +kernel)
          · refine S_ite (fun e => ?_) (fun ne4 => ?_)
            · refine s_tableIn (pc := 33) (dflt := 1260) (lo := 0) (hi := 33) (offs := #[151, 214, 237, 260, 273, 316, 339, 372, 405, 438, 461, 484, 527, 570, 603, 626, 649, 662, 685, 708, 742, 785, 829, 862, 906, 939, 972, 1016, 1050, 1094, 1137, 1191, 1224, 1247]) (len := 151) (off := 273) 306 (by decide +kernel) (by rw [e]; decide) (by rw [e]; decide) (by rw [e]; rfl) (by decide) ?_
              refine s_aload_n (pc := 306) (k0 := 1) (i := 1) rfl 1 rfl (by decide +kernel) ?_
              refine s_aload_n (pc := 307) (k0 := 0) (i := 0) rfl 0 rfl (by decide +kernel) ?_
              refine s_iload_n (pc := 308) (k0 := 3) (i := 3) rfl 3 rfl (by decide +kernel) ?_
              refine s_iconst (pc := 309) (n := 1) (v := (1 : Int32)) (by decide) (by decide +kernel) ?_
              refine s_iadd (pc := 310) (by decide +kernel) ?_
              refine S_gd (fun c375 => ?_)
              refine s_iald (pc := 311) c1 c375 (by decide +kernel) ?_
              refine s_aload_n (pc := 312) (k0 := 0) (i := 0) rfl 0 rfl (by decide +kernel) ?_
              refine s_iload_n (pc := 313) (k0 := 3) (i := 3) rfl 3 rfl (by decide +kernel) ?_
              refine s_iconst (pc := 314) (n := 2) (v := (2 : Int32)) (by decide) (by decide +kernel) ?_
              refine s_iadd (pc := 315) (by decide +kernel) ?_
              refine S_gd (fun c376 => ?_)
              refine s_iald (pc := 316) c1 c376 (by decide +kernel) ?_
              refine s_aload_n (pc := 317) (k0 := 0) (i := 0) rfl 0 rfl (by decide +kernel) ?_
              refine s_iload_n (pc := 318) (k0 := 3) (i := 3) rfl 3 rfl (by decide +kernel) ?_
              refine s_iconst (pc := 319) (n := 3) (v := (3 : Int32)) (by decide) (by decide +kernel) ?_
              refine s_iadd (pc := 320) (by decide +kernel) ?_
              refine S_gd (fun c377 => ?_)
              refine s_iald (pc := 321) c1 c377 (by decide +kernel) ?_
              refine S_gd (fun c378 => ?_)
              refine s_cVi (pc := 322) [.int (hI h a0 (a3 + (1 : Int32)).toNatClampNeg), .int (hI h a0 (a3 + (2 : Int32)).toNatClampNeg), .int (hI h a0 (a3 + (3 : Int32)).toNatClampNeg)] (tX6_dot a1 (hI h a0 (a3 + (1 : Int32)).toNatClampNeg) (hI h a0 (a3 + (2 : Int32)).toNatClampNeg) (hI h a0 (a3 + (3 : Int32)).toNatClampNeg) h) c378 cw_L_32 rfl ⟨⟨Nat.le_of_ble_eq_true rfl, Nat.le_of_ble_eq_true rfl⟩, Nat.le_of_ble_eq_true rfl⟩ rfl (by decide +kernel) (fun w381 g379 e380 => ?_)
              refine s_aload_n (pc := 325) (k0 := 2) (i := 2) rfl 2 rfl (by decide +kernel) ?_
              refine s_aload_n (pc := 326) (k0 := 0) (i := 0) rfl 0 rfl (by decide +kernel) ?_
              refine s_iload_n (pc := 327) (k0 := 3) (i := 3) rfl 3 rfl (by decide +kernel) ?_
              refine s_iconst (pc := 328) (n := 1) (v := (1 : Int32)) (by decide) (by decide +kernel) ?_
              refine s_iadd (pc := 329) (by decide +kernel) ?_
              have c382 := kp e380 c1 (by decide)
              refine S_gd (fun c383 => ?_)
              refine s_iald (pc := 330) c382 c383 (by decide +kernel) ?_
              refine s_aload_n (pc := 331) (k0 := 0) (i := 0) rfl 0 rfl (by decide +kernel) ?_
              refine s_iload_n (pc := 332) (k0 := 3) (i := 3) rfl 3 rfl (by decide +kernel) ?_
              refine s_iconst (pc := 333) (n := 2) (v := (2 : Int32)) (by decide) (by decide +kernel) ?_
              refine s_iadd (pc := 334) (by decide +kernel) ?_
              refine S_gd (fun c384 => ?_)
              refine s_iald (pc := 335) c382 c384 (by decide +kernel) ?_
              refine s_aload_n (pc := 336) (k0 := 0) (i := 0) rfl 0 rfl (by decide +kernel) ?_
              refine s_iload_n (pc := 337) (k0 := 3) (i := 3) rfl 3 rfl (by decide +kernel) ?_
              refine s_iconst (pc := 338) (n := 3) (v := (3 : Int32)) (by decide) (by decide +kernel) ?_
              refine s_iadd (pc := 339) (by decide +kernel) ?_
              refine S_gd (fun c385 => ?_)
              refine s_iald (pc := 340) c382 c385 (by decide +kernel) ?_
              refine S_gd (fun c386 => ?_)
              refine s_cVi (pc := 341) [.int (hI g379 a0 (a3 + (1 : Int32)).toNatClampNeg), .int (hI g379 a0 (a3 + (2 : Int32)).toNatClampNeg), .int (hI g379 a0 (a3 + (3 : Int32)).toNatClampNeg)] (tX7_dot a2 (hI g379 a0 (a3 + (1 : Int32)).toNatClampNeg) (hI g379 a0 (a3 + (2 : Int32)).toNatClampNeg) (hI g379 a0 (a3 + (3 : Int32)).toNatClampNeg) g379) c386 cw_L_36 rfl ⟨⟨Nat.le_of_ble_eq_true rfl, Nat.le_of_ble_eq_true rfl⟩, Nat.le_of_ble_eq_true rfl⟩ rfl (by decide +kernel) (fun w389 g387 e388 => ?_)
              refine s_icmp_eq (pc := 344) (off := 949) 1293 (by decide +kernel) (by decide) (fun _ => ?_) (fun _ => ?_)
              · exact pL_law_b1293 hr18 a0 a1 a2 a3 g387
              · refine s_iconst (pc := 347) (n := 0) (v := (0 : Int32)) (by decide) (by decide +kernel) ?_
                exact s_zret (pc := 348) (by decide) rfl (by decide +kernel)
            · refine S_ite (fun e => ?_) (fun ne5 => ?_)
              · refine s_tableIn (pc := 33) (dflt := 1260) (lo := 0) (hi := 33) (offs := #[151, 214, 237, 260, 273, 316, 339, 372, 405, 438, 461, 484, 527, 570, 603, 626, 649, 662, 685, 708, 742, 785, 829, 862, 906, 939, 972, 1016, 1050, 1094, 1137, 1191, 1224, 1247]) (len := 151) (off := 316) 349 (by decide +kernel) (by rw [e]; decide) (by rw [e]; decide) (by rw [e]; rfl) (by decide) ?_
                refine s_aload_n (pc := 349) (k0 := 1) (i := 1) rfl 1 rfl (by decide +kernel) ?_
                refine s_aload_n (pc := 350) (k0 := 0) (i := 0) rfl 0 rfl (by decide +kernel) ?_
                refine s_iload_n (pc := 351) (k0 := 3) (i := 3) rfl 3 rfl (by decide +kernel) ?_
                refine s_iconst (pc := 352) (n := 1) (v := (1 : Int32)) (by decide) (by decide +kernel) ?_
                refine s_iadd (pc := 353) (by decide +kernel) ?_
                refine S_gd (fun c364 => ?_)
                refine s_iald (pc := 354) c1 c364 (by decide +kernel) ?_
                refine S_gd (fun c365 => ?_)
                refine s_cVi (pc := 355) [.int (hI h a0 (a3 + (1 : Int32)).toNatClampNeg)] (tX6_clear a1 (hI h a0 (a3 + (1 : Int32)).toNatClampNeg) h) c365 cw_L_37 rfl ⟨⟨Nat.le_of_ble_eq_true rfl, Nat.le_of_ble_eq_true rfl⟩, Nat.le_of_ble_eq_true rfl⟩ rfl (by decide +kernel) (fun w368 g366 e367 => ?_)
                refine s_aload_n (pc := 358) (k0 := 2) (i := 2) rfl 2 rfl (by decide +kernel) ?_
                refine s_aload_n (pc := 359) (k0 := 0) (i := 0) rfl 0 rfl (by decide +kernel) ?_
                refine s_iload_n (pc := 360) (k0 := 3) (i := 3) rfl 3 rfl (by decide +kernel) ?_
                refine s_iconst (pc := 361) (n := 1) (v := (1 : Int32)) (by decide) (by decide +kernel) ?_
                refine s_iadd (pc := 362) (by decide +kernel) ?_
                have c369 := kp e367 c1 (by decide)
                refine S_gd (fun c370 => ?_)
                refine s_iald (pc := 363) c369 c370 (by decide +kernel) ?_
                refine S_gd (fun c371 => ?_)
                refine s_cVi (pc := 364) [.int (hI g366 a0 (a3 + (1 : Int32)).toNatClampNeg)] (tX7_clear a2 (hI g366 a0 (a3 + (1 : Int32)).toNatClampNeg) g366) c371 cw_L_40 rfl ⟨⟨Nat.le_of_ble_eq_true rfl, Nat.le_of_ble_eq_true rfl⟩, Nat.le_of_ble_eq_true rfl⟩ rfl (by decide +kernel) (fun w374 g372 e373 => ?_)
                refine s_icmp_eq (pc := 367) (off := 926) 1293 (by decide +kernel) (by decide) (fun _ => ?_) (fun _ => ?_)
                · exact pL_law_b1293 hr18 a0 a1 a2 a3 g372
                · refine s_iconst (pc := 370) (n := 0) (v := (0 : Int32)) (by decide) (by decide +kernel) ?_
                  exact s_zret (pc := 371) (by decide) rfl (by decide +kernel)
              · refine S_ite (fun e => ?_) (fun ne6 => ?_)
                · refine s_tableIn (pc := 33) (dflt := 1260) (lo := 0) (hi := 33) (offs := #[151, 214, 237, 260, 273, 316, 339, 372, 405, 438, 461, 484, 527, 570, 603, 626, 649, 662, 685, 708, 742, 785, 829, 862, 906, 939, 972, 1016, 1050, 1094, 1137, 1191, 1224, 1247]) (len := 151) (off := 339) 372 (by decide +kernel) (by rw [e]; decide) (by rw [e]; decide) (by rw [e]; rfl) (by decide) ?_
                  refine s_aload_n (pc := 372) (k0 := 1) (i := 1) rfl 1 rfl (by decide +kernel) ?_
                  refine s_aload_n (pc := 373) (k0 := 0) (i := 0) rfl 0 rfl (by decide +kernel) ?_
                  refine s_iload_n (pc := 374) (k0 := 3) (i := 3) rfl 3 rfl (by decide +kernel) ?_
                  refine s_iconst (pc := 375) (n := 1) (v := (1 : Int32)) (by decide) (by decide +kernel) ?_
                  refine s_iadd (pc := 376) (by decide +kernel) ?_
                  refine S_gd (fun c351 => ?_)
                  refine s_iald (pc := 377) c1 c351 (by decide +kernel) ?_
                  refine s_aload_n (pc := 378) (k0 := 0) (i := 0) rfl 0 rfl (by decide +kernel) ?_
                  refine s_iload_n (pc := 379) (k0 := 3) (i := 3) rfl 3 rfl (by decide +kernel) ?_
                  refine s_iconst (pc := 380) (n := 2) (v := (2 : Int32)) (by decide) (by decide +kernel) ?_
                  refine s_iadd (pc := 381) (by decide +kernel) ?_
                  refine S_gd (fun c352 => ?_)
                  refine s_iald (pc := 382) c1 c352 (by decide +kernel) ?_
                  refine S_gd (fun c353 => ?_)
                  refine s_cVi (pc := 383) [.int (hI h a0 (a3 + (1 : Int32)).toNatClampNeg), .int (hI h a0 (a3 + (2 : Int32)).toNatClampNeg)] (tX6_sum a1 (hI h a0 (a3 + (1 : Int32)).toNatClampNeg) (hI h a0 (a3 + (2 : Int32)).toNatClampNeg) h) c353 cw_L_41 rfl ⟨⟨Nat.le_of_ble_eq_true rfl, Nat.le_of_ble_eq_true rfl⟩, Nat.le_of_ble_eq_true rfl⟩ rfl (by decide +kernel) (fun w356 g354 e355 => ?_)
                  refine s_aload_n (pc := 386) (k0 := 2) (i := 2) rfl 2 rfl (by decide +kernel) ?_
                  refine s_aload_n (pc := 387) (k0 := 0) (i := 0) rfl 0 rfl (by decide +kernel) ?_
                  refine s_iload_n (pc := 388) (k0 := 3) (i := 3) rfl 3 rfl (by decide +kernel) ?_
                  refine s_iconst (pc := 389) (n := 1) (v := (1 : Int32)) (by decide) (by decide +kernel) ?_
                  refine s_iadd (pc := 390) (by decide +kernel) ?_
                  have c357 := kp e355 c1 (by decide)
                  refine S_gd (fun c358 => ?_)
                  refine s_iald (pc := 391) c357 c358 (by decide +kernel) ?_
                  refine s_aload_n (pc := 392) (k0 := 0) (i := 0) rfl 0 rfl (by decide +kernel) ?_
                  refine s_iload_n (pc := 393) (k0 := 3) (i := 3) rfl 3 rfl (by decide +kernel) ?_
                  refine s_iconst (pc := 394) (n := 2) (v := (2 : Int32)) (by decide) (by decide +kernel) ?_
                  refine s_iadd (pc := 395) (by decide +kernel) ?_
                  refine S_gd (fun c359 => ?_)
                  refine s_iald (pc := 396) c357 c359 (by decide +kernel) ?_
                  refine S_gd (fun c360 => ?_)
                  refine s_cVi (pc := 397) [.int (hI g354 a0 (a3 + (1 : Int32)).toNatClampNeg), .int (hI g354 a0 (a3 + (2 : Int32)).toNatClampNeg)] (tX7_sum a2 (hI g354 a0 (a3 + (1 : Int32)).toNatClampNeg) (hI g354 a0 (a3 + (2 : Int32)).toNatClampNeg) g354) c360 cw_L_45 rfl ⟨⟨Nat.le_of_ble_eq_true rfl, Nat.le_of_ble_eq_true rfl⟩, Nat.le_of_ble_eq_true rfl⟩ rfl (by decide +kernel) (fun w363 g361 e362 => ?_)
                  refine s_icmp_eq (pc := 400) (off := 893) 1293 (by decide +kernel) (by decide) (fun _ => ?_) (fun _ => ?_)
                  · exact pL_law_b1293 hr18 a0 a1 a2 a3 g361
                  · refine s_iconst (pc := 403) (n := 0) (v := (0 : Int32)) (by decide) (by decide +kernel) ?_
                    exact s_zret (pc := 404) (by decide) rfl (by decide +kernel)
                · refine S_ite (fun e => ?_) (fun ne7 => ?_)
                  · refine s_tableIn (pc := 33) (dflt := 1260) (lo := 0) (hi := 33) (offs := #[151, 214, 237, 260, 273, 316, 339, 372, 405, 438, 461, 484, 527, 570, 603, 626, 649, 662, 685, 708, 742, 785, 829, 862, 906, 939, 972, 1016, 1050, 1094, 1137, 1191, 1224, 1247]) (len := 151) (off := 372) 405 (by decide +kernel) (by rw [e]; decide) (by rw [e]; decide) (by rw [e]; rfl) (by decide) ?_
                    refine s_aload_n (pc := 405) (k0 := 1) (i := 1) rfl 1 rfl (by decide +kernel) ?_
                    refine s_aload_n (pc := 406) (k0 := 0) (i := 0) rfl 0 rfl (by decide +kernel) ?_
                    refine s_iload_n (pc := 407) (k0 := 3) (i := 3) rfl 3 rfl (by decide +kernel) ?_
                    refine s_iconst (pc := 408) (n := 1) (v := (1 : Int32)) (by decide) (by decide +kernel) ?_
                    refine s_iadd (pc := 409) (by decide +kernel) ?_
                    refine S_gd (fun c338 => ?_)
                    refine s_iald (pc := 410) c1 c338 (by decide +kernel) ?_
                    refine s_aload_n (pc := 411) (k0 := 0) (i := 0) rfl 0 rfl (by decide +kernel) ?_
                    refine s_iload_n (pc := 412) (k0 := 3) (i := 3) rfl 3 rfl (by decide +kernel) ?_
                    refine s_iconst (pc := 413) (n := 2) (v := (2 : Int32)) (by decide) (by decide +kernel) ?_
                    refine s_iadd (pc := 414) (by decide +kernel) ?_
                    refine S_gd (fun c339 => ?_)
                    refine s_iald (pc := 415) c1 c339 (by decide +kernel) ?_
                    refine S_gd (fun c340 => ?_)
                    refine s_cVi (pc := 416) [.int (hI h a0 (a3 + (1 : Int32)).toNatClampNeg), .int (hI h a0 (a3 + (2 : Int32)).toNatClampNeg)] (tX6_under a1 (hI h a0 (a3 + (1 : Int32)).toNatClampNeg) (hI h a0 (a3 + (2 : Int32)).toNatClampNeg) h) c340 cw_L_46 rfl ⟨⟨Nat.le_of_ble_eq_true rfl, Nat.le_of_ble_eq_true rfl⟩, Nat.le_of_ble_eq_true rfl⟩ rfl (by decide +kernel) (fun w343 g341 e342 => ?_)
                    refine s_aload_n (pc := 419) (k0 := 2) (i := 2) rfl 2 rfl (by decide +kernel) ?_
                    refine s_aload_n (pc := 420) (k0 := 0) (i := 0) rfl 0 rfl (by decide +kernel) ?_
                    refine s_iload_n (pc := 421) (k0 := 3) (i := 3) rfl 3 rfl (by decide +kernel) ?_
                    refine s_iconst (pc := 422) (n := 1) (v := (1 : Int32)) (by decide) (by decide +kernel) ?_
                    refine s_iadd (pc := 423) (by decide +kernel) ?_
                    have c344 := kp e342 c1 (by decide)
                    refine S_gd (fun c345 => ?_)
                    refine s_iald (pc := 424) c344 c345 (by decide +kernel) ?_
                    refine s_aload_n (pc := 425) (k0 := 0) (i := 0) rfl 0 rfl (by decide +kernel) ?_
                    refine s_iload_n (pc := 426) (k0 := 3) (i := 3) rfl 3 rfl (by decide +kernel) ?_
                    refine s_iconst (pc := 427) (n := 2) (v := (2 : Int32)) (by decide) (by decide +kernel) ?_
                    refine s_iadd (pc := 428) (by decide +kernel) ?_
                    refine S_gd (fun c346 => ?_)
                    refine s_iald (pc := 429) c344 c346 (by decide +kernel) ?_
                    refine S_gd (fun c347 => ?_)
                    refine s_cVi (pc := 430) [.int (hI g341 a0 (a3 + (1 : Int32)).toNatClampNeg), .int (hI g341 a0 (a3 + (2 : Int32)).toNatClampNeg)] (tX7_under_ a2 (hI g341 a0 (a3 + (1 : Int32)).toNatClampNeg) (hI g341 a0 (a3 + (2 : Int32)).toNatClampNeg) g341) c347 cw_L_49 rfl ⟨⟨Nat.le_of_ble_eq_true rfl, Nat.le_of_ble_eq_true rfl⟩, Nat.le_of_ble_eq_true rfl⟩ rfl (by decide +kernel) (fun w350 g348 e349 => ?_)
                    refine s_icmp_eq (pc := 433) (off := 860) 1293 (by decide +kernel) (by decide) (fun _ => ?_) (fun _ => ?_)
                    · exact pL_law_b1293 hr18 a0 a1 a2 a3 g348
                    · refine s_iconst (pc := 436) (n := 0) (v := (0 : Int32)) (by decide) (by decide +kernel) ?_
                      exact s_zret (pc := 437) (by decide) rfl (by decide +kernel)
                  · refine S_ite (fun e => ?_) (fun ne8 => ?_)
                    · refine s_tableIn (pc := 33) (dflt := 1260) (lo := 0) (hi := 33) (offs := #[151, 214, 237, 260, 273, 316, 339, 372, 405, 438, 461, 484, 527, 570, 603, 626, 649, 662, 685, 708, 742, 785, 829, 862, 906, 939, 972, 1016, 1050, 1094, 1137, 1191, 1224, 1247]) (len := 151) (off := 405) 438 (by decide +kernel) (by rw [e]; decide) (by rw [e]; decide) (by rw [e]; rfl) (by decide) ?_
                      refine s_aload_n (pc := 438) (k0 := 1) (i := 1) rfl 1 rfl (by decide +kernel) ?_
                      refine s_aload_n (pc := 439) (k0 := 0) (i := 0) rfl 0 rfl (by decide +kernel) ?_
                      refine s_iload_n (pc := 440) (k0 := 3) (i := 3) rfl 3 rfl (by decide +kernel) ?_
                      refine s_iconst (pc := 441) (n := 1) (v := (1 : Int32)) (by decide) (by decide +kernel) ?_
                      refine s_iadd (pc := 442) (by decide +kernel) ?_
                      refine S_gd (fun c325 => ?_)
                      refine s_iald (pc := 443) c1 c325 (by decide +kernel) ?_
                      refine s_aload_n (pc := 444) (k0 := 0) (i := 0) rfl 0 rfl (by decide +kernel) ?_
                      refine s_iload_n (pc := 445) (k0 := 3) (i := 3) rfl 3 rfl (by decide +kernel) ?_
                      refine s_iconst (pc := 446) (n := 2) (v := (2 : Int32)) (by decide) (by decide +kernel) ?_
                      refine s_iadd (pc := 447) (by decide +kernel) ?_
                      refine S_gd (fun c326 => ?_)
                      refine s_iald (pc := 448) c1 c326 (by decide +kernel) ?_
                      refine S_gd (fun c327 => ?_)
                      refine s_cVi (pc := 449) [.int (hI h a0 (a3 + (1 : Int32)).toNatClampNeg), .int (hI h a0 (a3 + (2 : Int32)).toNatClampNeg)] (tX6_join a1 (hI h a0 (a3 + (1 : Int32)).toNatClampNeg) (hI h a0 (a3 + (2 : Int32)).toNatClampNeg) h) c327 cw_L_50 rfl ⟨⟨Nat.le_of_ble_eq_true rfl, Nat.le_of_ble_eq_true rfl⟩, Nat.le_of_ble_eq_true rfl⟩ rfl (by decide +kernel) (fun w330 g328 e329 => ?_)
                      refine s_aload_n (pc := 452) (k0 := 2) (i := 2) rfl 2 rfl (by decide +kernel) ?_
                      refine s_aload_n (pc := 453) (k0 := 0) (i := 0) rfl 0 rfl (by decide +kernel) ?_
                      refine s_iload_n (pc := 454) (k0 := 3) (i := 3) rfl 3 rfl (by decide +kernel) ?_
                      refine s_iconst (pc := 455) (n := 1) (v := (1 : Int32)) (by decide) (by decide +kernel) ?_
                      refine s_iadd (pc := 456) (by decide +kernel) ?_
                      have c331 := kp e329 c1 (by decide)
                      refine S_gd (fun c332 => ?_)
                      refine s_iald (pc := 457) c331 c332 (by decide +kernel) ?_
                      refine s_aload_n (pc := 458) (k0 := 0) (i := 0) rfl 0 rfl (by decide +kernel) ?_
                      refine s_iload_n (pc := 459) (k0 := 3) (i := 3) rfl 3 rfl (by decide +kernel) ?_
                      refine s_iconst (pc := 460) (n := 2) (v := (2 : Int32)) (by decide) (by decide +kernel) ?_
                      refine s_iadd (pc := 461) (by decide +kernel) ?_
                      refine S_gd (fun c333 => ?_)
                      refine s_iald (pc := 462) c331 c333 (by decide +kernel) ?_
                      refine S_gd (fun c334 => ?_)
                      refine s_cVi (pc := 463) [.int (hI g328 a0 (a3 + (1 : Int32)).toNatClampNeg), .int (hI g328 a0 (a3 + (2 : Int32)).toNatClampNeg)] (tX7_join a2 (hI g328 a0 (a3 + (1 : Int32)).toNatClampNeg) (hI g328 a0 (a3 + (2 : Int32)).toNatClampNeg) g328) c334 cw_L_53 rfl ⟨⟨Nat.le_of_ble_eq_true rfl, Nat.le_of_ble_eq_true rfl⟩, Nat.le_of_ble_eq_true rfl⟩ rfl (by decide +kernel) (fun w337 g335 e336 => ?_)
                      refine s_icmp_eq (pc := 466) (off := 827) 1293 (by decide +kernel) (by decide) (fun _ => ?_) (fun _ => ?_)
                      · exact pL_law_b1293 hr18 a0 a1 a2 a3 g335
                      · refine s_iconst (pc := 469) (n := 0) (v := (0 : Int32)) (by decide) (by decide +kernel) ?_
                        exact s_zret (pc := 470) (by decide) rfl (by decide +kernel)
                    · refine S_ite (fun e => ?_) (fun ne9 => ?_)
                      · refine s_tableIn (pc := 33) (dflt := 1260) (lo := 0) (hi := 33) (offs := #[151, 214, 237, 260, 273, 316, 339, 372, 405, 438, 461, 484, 527, 570, 603, 626, 649, 662, 685, 708, 742, 785, 829, 862, 906, 939, 972, 1016, 1050, 1094, 1137, 1191, 1224, 1247]) (len := 151) (off := 438) 471 (by decide +kernel) (by rw [e]; decide) (by rw [e]; decide) (by rw [e]; rfl) (by decide) ?_
                        refine s_aload_n (pc := 471) (k0 := 1) (i := 1) rfl 1 rfl (by decide +kernel) ?_
                        refine s_aload_n (pc := 472) (k0 := 0) (i := 0) rfl 0 rfl (by decide +kernel) ?_
                        refine s_iload_n (pc := 473) (k0 := 3) (i := 3) rfl 3 rfl (by decide +kernel) ?_
                        refine s_iconst (pc := 474) (n := 1) (v := (1 : Int32)) (by decide) (by decide +kernel) ?_
                        refine s_iadd (pc := 475) (by decide +kernel) ?_
                        refine S_gd (fun c314 => ?_)
                        refine s_iald (pc := 476) c1 c314 (by decide +kernel) ?_
                        refine S_gd (fun c315 => ?_)
                        refine s_cVi (pc := 477) [.int (hI h a0 (a3 + (1 : Int32)).toNatClampNeg)] (tX6_turn a1 (hI h a0 (a3 + (1 : Int32)).toNatClampNeg) h) c315 cw_L_54 rfl ⟨⟨Nat.le_of_ble_eq_true rfl, Nat.le_of_ble_eq_true rfl⟩, Nat.le_of_ble_eq_true rfl⟩ rfl (by decide +kernel) (fun w318 g316 e317 => ?_)
                        refine s_aload_n (pc := 480) (k0 := 2) (i := 2) rfl 2 rfl (by decide +kernel) ?_
                        refine s_aload_n (pc := 481) (k0 := 0) (i := 0) rfl 0 rfl (by decide +kernel) ?_
                        refine s_iload_n (pc := 482) (k0 := 3) (i := 3) rfl 3 rfl (by decide +kernel) ?_
                        refine s_iconst (pc := 483) (n := 1) (v := (1 : Int32)) (by decide) (by decide +kernel) ?_
                        refine s_iadd (pc := 484) (by decide +kernel) ?_
                        have c319 := kp e317 c1 (by decide)
                        refine S_gd (fun c320 => ?_)
                        refine s_iald (pc := 485) c319 c320 (by decide +kernel) ?_
                        refine S_gd (fun c321 => ?_)
                        refine s_cVi (pc := 486) [.int (hI g316 a0 (a3 + (1 : Int32)).toNatClampNeg)] (tX7_turn a2 (hI g316 a0 (a3 + (1 : Int32)).toNatClampNeg) g316) c321 cw_L_57 rfl ⟨⟨Nat.le_of_ble_eq_true rfl, Nat.le_of_ble_eq_true rfl⟩, Nat.le_of_ble_eq_true rfl⟩ rfl (by decide +kernel) (fun w324 g322 e323 => ?_)
                        refine s_icmp_eq (pc := 489) (off := 804) 1293 (by decide +kernel) (by decide) (fun _ => ?_) (fun _ => ?_)
                        · exact pL_law_b1293 hr18 a0 a1 a2 a3 g322
                        · refine s_iconst (pc := 492) (n := 0) (v := (0 : Int32)) (by decide) (by decide +kernel) ?_
                          exact s_zret (pc := 493) (by decide) rfl (by decide +kernel)
                      · refine S_ite (fun e => ?_) (fun ne10 => ?_)
                        · refine s_tableIn (pc := 33) (dflt := 1260) (lo := 0) (hi := 33) (offs := #[151, 214, 237, 260, 273, 316, 339, 372, 405, 438, 461, 484, 527, 570, 603, 626, 649, 662, 685, 708, 742, 785, 829, 862, 906, 939, 972, 1016, 1050, 1094, 1137, 1191, 1224, 1247]) (len := 151) (off := 461) 494 (by decide +kernel) (by rw [e]; decide) (by rw [e]; decide) (by rw [e]; rfl) (by decide) ?_
                          refine s_aload_n (pc := 494) (k0 := 1) (i := 1) rfl 1 rfl (by decide +kernel) ?_
                          refine s_aload_n (pc := 495) (k0 := 0) (i := 0) rfl 0 rfl (by decide +kernel) ?_
                          refine s_iload_n (pc := 496) (k0 := 3) (i := 3) rfl 3 rfl (by decide +kernel) ?_
                          refine s_iconst (pc := 497) (n := 1) (v := (1 : Int32)) (by decide) (by decide +kernel) ?_
                          refine s_iadd (pc := 498) (by decide +kernel) ?_
                          refine S_gd (fun c303 => ?_)
                          refine s_iald (pc := 499) c1 c303 (by decide +kernel) ?_
                          refine S_gd (fun c304 => ?_)
                          refine s_cVi (pc := 500) [.int (hI h a0 (a3 + (1 : Int32)).toNatClampNeg)] (tX6_hull a1 (hI h a0 (a3 + (1 : Int32)).toNatClampNeg) h) c304 cw_L_58 rfl ⟨⟨Nat.le_of_ble_eq_true rfl, Nat.le_of_ble_eq_true rfl⟩, Nat.le_of_ble_eq_true rfl⟩ rfl (by decide +kernel) (fun w307 g305 e306 => ?_)
                          refine s_aload_n (pc := 503) (k0 := 2) (i := 2) rfl 2 rfl (by decide +kernel) ?_
                          refine s_aload_n (pc := 504) (k0 := 0) (i := 0) rfl 0 rfl (by decide +kernel) ?_
                          refine s_iload_n (pc := 505) (k0 := 3) (i := 3) rfl 3 rfl (by decide +kernel) ?_
                          refine s_iconst (pc := 506) (n := 1) (v := (1 : Int32)) (by decide) (by decide +kernel) ?_
                          refine s_iadd (pc := 507) (by decide +kernel) ?_
                          have c308 := kp e306 c1 (by decide)
                          refine S_gd (fun c309 => ?_)
                          refine s_iald (pc := 508) c308 c309 (by decide +kernel) ?_
                          refine S_gd (fun c310 => ?_)
                          refine s_cVi (pc := 509) [.int (hI g305 a0 (a3 + (1 : Int32)).toNatClampNeg)] (tX7_hull a2 (hI g305 a0 (a3 + (1 : Int32)).toNatClampNeg) g305) c310 cw_L_61 rfl ⟨⟨Nat.le_of_ble_eq_true rfl, Nat.le_of_ble_eq_true rfl⟩, Nat.le_of_ble_eq_true rfl⟩ rfl (by decide +kernel) (fun w313 g311 e312 => ?_)
                          refine s_icmp_eq (pc := 512) (off := 781) 1293 (by decide +kernel) (by decide) (fun _ => ?_) (fun _ => ?_)
                          · exact pL_law_b1293 hr18 a0 a1 a2 a3 g311
                          · refine s_iconst (pc := 515) (n := 0) (v := (0 : Int32)) (by decide) (by decide +kernel) ?_
                            exact s_zret (pc := 516) (by decide) rfl (by decide +kernel)
                        · refine S_ite (fun e => ?_) (fun ne11 => ?_)
                          · refine s_tableIn (pc := 33) (dflt := 1260) (lo := 0) (hi := 33) (offs := #[151, 214, 237, 260, 273, 316, 339, 372, 405, 438, 461, 484, 527, 570, 603, 626, 649, 662, 685, 708, 742, 785, 829, 862, 906, 939, 972, 1016, 1050, 1094, 1137, 1191, 1224, 1247]) (len := 151) (off := 484) 517 (by decide +kernel) (by rw [e]; decide) (by rw [e]; decide) (by rw [e]; rfl) (by decide) ?_
                            refine s_aload_n (pc := 517) (k0 := 1) (i := 1) rfl 1 rfl (by decide +kernel) ?_
                            refine s_aload_n (pc := 518) (k0 := 0) (i := 0) rfl 0 rfl (by decide +kernel) ?_
                            refine s_iload_n (pc := 519) (k0 := 3) (i := 3) rfl 3 rfl (by decide +kernel) ?_
                            refine s_iconst (pc := 520) (n := 1) (v := (1 : Int32)) (by decide) (by decide +kernel) ?_
                            refine s_iadd (pc := 521) (by decide +kernel) ?_
                            refine S_gd (fun c288 => ?_)
                            refine s_iald (pc := 522) c1 c288 (by decide +kernel) ?_
                            refine s_aload_n (pc := 523) (k0 := 0) (i := 0) rfl 0 rfl (by decide +kernel) ?_
                            refine s_iload_n (pc := 524) (k0 := 3) (i := 3) rfl 3 rfl (by decide +kernel) ?_
                            refine s_iconst (pc := 525) (n := 2) (v := (2 : Int32)) (by decide) (by decide +kernel) ?_
                            refine s_iadd (pc := 526) (by decide +kernel) ?_
                            refine S_gd (fun c289 => ?_)
                            refine s_iald (pc := 527) c1 c289 (by decide +kernel) ?_
                            refine s_aload_n (pc := 528) (k0 := 0) (i := 0) rfl 0 rfl (by decide +kernel) ?_
                            refine s_iload_n (pc := 529) (k0 := 3) (i := 3) rfl 3 rfl (by decide +kernel) ?_
                            refine s_iconst (pc := 530) (n := 3) (v := (3 : Int32)) (by decide) (by decide +kernel) ?_
                            refine s_iadd (pc := 531) (by decide +kernel) ?_
                            refine S_gd (fun c290 => ?_)
                            refine s_iald (pc := 532) c1 c290 (by decide +kernel) ?_
                            refine S_gd (fun c291 => ?_)
                            refine s_cVi (pc := 533) [.int (hI h a0 (a3 + (1 : Int32)).toNatClampNeg), .int (hI h a0 (a3 + (2 : Int32)).toNatClampNeg), .int (hI h a0 (a3 + (3 : Int32)).toNatClampNeg)] (tX6_cut a1 (hI h a0 (a3 + (1 : Int32)).toNatClampNeg) (hI h a0 (a3 + (2 : Int32)).toNatClampNeg) (hI h a0 (a3 + (3 : Int32)).toNatClampNeg) h) c291 cw_L_62 rfl ⟨⟨Nat.le_of_ble_eq_true rfl, Nat.le_of_ble_eq_true rfl⟩, Nat.le_of_ble_eq_true rfl⟩ rfl (by decide +kernel) (fun w294 g292 e293 => ?_)
                            refine s_aload_n (pc := 536) (k0 := 2) (i := 2) rfl 2 rfl (by decide +kernel) ?_
                            refine s_aload_n (pc := 537) (k0 := 0) (i := 0) rfl 0 rfl (by decide +kernel) ?_
                            refine s_iload_n (pc := 538) (k0 := 3) (i := 3) rfl 3 rfl (by decide +kernel) ?_
                            refine s_iconst (pc := 539) (n := 1) (v := (1 : Int32)) (by decide) (by decide +kernel) ?_
                            refine s_iadd (pc := 540) (by decide +kernel) ?_
                            have c295 := kp e293 c1 (by decide)
                            refine S_gd (fun c296 => ?_)
                            refine s_iald (pc := 541) c295 c296 (by decide +kernel) ?_
                            refine s_aload_n (pc := 542) (k0 := 0) (i := 0) rfl 0 rfl (by decide +kernel) ?_
                            refine s_iload_n (pc := 543) (k0 := 3) (i := 3) rfl 3 rfl (by decide +kernel) ?_
                            refine s_iconst (pc := 544) (n := 2) (v := (2 : Int32)) (by decide) (by decide +kernel) ?_
                            refine s_iadd (pc := 545) (by decide +kernel) ?_
                            refine S_gd (fun c297 => ?_)
                            refine s_iald (pc := 546) c295 c297 (by decide +kernel) ?_
                            refine s_aload_n (pc := 547) (k0 := 0) (i := 0) rfl 0 rfl (by decide +kernel) ?_
                            refine s_iload_n (pc := 548) (k0 := 3) (i := 3) rfl 3 rfl (by decide +kernel) ?_
                            refine s_iconst (pc := 549) (n := 3) (v := (3 : Int32)) (by decide) (by decide +kernel) ?_
                            refine s_iadd (pc := 550) (by decide +kernel) ?_
                            refine S_gd (fun c298 => ?_)
                            refine s_iald (pc := 551) c295 c298 (by decide +kernel) ?_
                            refine S_gd (fun c299 => ?_)
                            refine s_cVi (pc := 552) [.int (hI g292 a0 (a3 + (1 : Int32)).toNatClampNeg), .int (hI g292 a0 (a3 + (2 : Int32)).toNatClampNeg), .int (hI g292 a0 (a3 + (3 : Int32)).toNatClampNeg)] (tX7_cut a2 (hI g292 a0 (a3 + (1 : Int32)).toNatClampNeg) (hI g292 a0 (a3 + (2 : Int32)).toNatClampNeg) (hI g292 a0 (a3 + (3 : Int32)).toNatClampNeg) g292) c299 cw_L_65 rfl ⟨⟨Nat.le_of_ble_eq_true rfl, Nat.le_of_ble_eq_true rfl⟩, Nat.le_of_ble_eq_true rfl⟩ rfl (by decide +kernel) (fun w302 g300 e301 => ?_)
                            refine s_icmp_eq (pc := 555) (off := 738) 1293 (by decide +kernel) (by decide) (fun _ => ?_) (fun _ => ?_)
                            · exact pL_law_b1293 hr18 a0 a1 a2 a3 g300
                            · refine s_iconst (pc := 558) (n := 0) (v := (0 : Int32)) (by decide) (by decide +kernel) ?_
                              exact s_zret (pc := 559) (by decide) rfl (by decide +kernel)
                          · refine S_ite (fun e => ?_) (fun ne12 => ?_)
                            · refine s_tableIn (pc := 33) (dflt := 1260) (lo := 0) (hi := 33) (offs := #[151, 214, 237, 260, 273, 316, 339, 372, 405, 438, 461, 484, 527, 570, 603, 626, 649, 662, 685, 708, 742, 785, 829, 862, 906, 939, 972, 1016, 1050, 1094, 1137, 1191, 1224, 1247]) (len := 151) (off := 527) 560 (by decide +kernel) (by rw [e]; decide) (by rw [e]; decide) (by rw [e]; rfl) (by decide) ?_
                              refine s_aload_n (pc := 560) (k0 := 1) (i := 1) rfl 1 rfl (by decide +kernel) ?_
                              refine s_aload_n (pc := 561) (k0 := 0) (i := 0) rfl 0 rfl (by decide +kernel) ?_
                              refine s_iload_n (pc := 562) (k0 := 3) (i := 3) rfl 3 rfl (by decide +kernel) ?_
                              refine s_iconst (pc := 563) (n := 1) (v := (1 : Int32)) (by decide) (by decide +kernel) ?_
                              refine s_iadd (pc := 564) (by decide +kernel) ?_
                              refine S_gd (fun c273 => ?_)
                              refine s_iald (pc := 565) c1 c273 (by decide +kernel) ?_
                              refine s_aload_n (pc := 566) (k0 := 0) (i := 0) rfl 0 rfl (by decide +kernel) ?_
                              refine s_iload_n (pc := 567) (k0 := 3) (i := 3) rfl 3 rfl (by decide +kernel) ?_
                              refine s_iconst (pc := 568) (n := 2) (v := (2 : Int32)) (by decide) (by decide +kernel) ?_
                              refine s_iadd (pc := 569) (by decide +kernel) ?_
                              refine S_gd (fun c274 => ?_)
                              refine s_iald (pc := 570) c1 c274 (by decide +kernel) ?_
                              refine s_aload_n (pc := 571) (k0 := 0) (i := 0) rfl 0 rfl (by decide +kernel) ?_
                              refine s_iload_n (pc := 572) (k0 := 3) (i := 3) rfl 3 rfl (by decide +kernel) ?_
                              refine s_iconst (pc := 573) (n := 3) (v := (3 : Int32)) (by decide) (by decide +kernel) ?_
                              refine s_iadd (pc := 574) (by decide +kernel) ?_
                              refine S_gd (fun c275 => ?_)
                              refine s_iald (pc := 575) c1 c275 (by decide +kernel) ?_
                              refine S_gd (fun c276 => ?_)
                              refine s_cVi (pc := 576) [.int (hI h a0 (a3 + (1 : Int32)).toNatClampNeg), .int (hI h a0 (a3 + (2 : Int32)).toNatClampNeg), .int (hI h a0 (a3 + (3 : Int32)).toNatClampNeg)] (tX6_move a1 (hI h a0 (a3 + (1 : Int32)).toNatClampNeg) (hI h a0 (a3 + (2 : Int32)).toNatClampNeg) (hI h a0 (a3 + (3 : Int32)).toNatClampNeg) h) c276 cw_L_66 rfl ⟨⟨Nat.le_of_ble_eq_true rfl, Nat.le_of_ble_eq_true rfl⟩, Nat.le_of_ble_eq_true rfl⟩ rfl (by decide +kernel) (fun w279 g277 e278 => ?_)
                              refine s_aload_n (pc := 579) (k0 := 2) (i := 2) rfl 2 rfl (by decide +kernel) ?_
                              refine s_aload_n (pc := 580) (k0 := 0) (i := 0) rfl 0 rfl (by decide +kernel) ?_
                              refine s_iload_n (pc := 581) (k0 := 3) (i := 3) rfl 3 rfl (by decide +kernel) ?_
                              refine s_iconst (pc := 582) (n := 1) (v := (1 : Int32)) (by decide) (by decide +kernel) ?_
                              refine s_iadd (pc := 583) (by decide +kernel) ?_
                              have c280 := kp e278 c1 (by decide)
                              refine S_gd (fun c281 => ?_)
                              refine s_iald (pc := 584) c280 c281 (by decide +kernel) ?_
                              refine s_aload_n (pc := 585) (k0 := 0) (i := 0) rfl 0 rfl (by decide +kernel) ?_
                              refine s_iload_n (pc := 586) (k0 := 3) (i := 3) rfl 3 rfl (by decide +kernel) ?_
                              refine s_iconst (pc := 587) (n := 2) (v := (2 : Int32)) (by decide) (by decide +kernel) ?_
                              refine s_iadd (pc := 588) (by decide +kernel) ?_
                              refine S_gd (fun c282 => ?_)
                              refine s_iald (pc := 589) c280 c282 (by decide +kernel) ?_
                              refine s_aload_n (pc := 590) (k0 := 0) (i := 0) rfl 0 rfl (by decide +kernel) ?_
                              refine s_iload_n (pc := 591) (k0 := 3) (i := 3) rfl 3 rfl (by decide +kernel) ?_
                              refine s_iconst (pc := 592) (n := 3) (v := (3 : Int32)) (by decide) (by decide +kernel) ?_
                              refine s_iadd (pc := 593) (by decide +kernel) ?_
                              refine S_gd (fun c283 => ?_)
                              refine s_iald (pc := 594) c280 c283 (by decide +kernel) ?_
                              refine S_gd (fun c284 => ?_)
                              refine s_cVi (pc := 595) [.int (hI g277 a0 (a3 + (1 : Int32)).toNatClampNeg), .int (hI g277 a0 (a3 + (2 : Int32)).toNatClampNeg), .int (hI g277 a0 (a3 + (3 : Int32)).toNatClampNeg)] (tX7_move a2 (hI g277 a0 (a3 + (1 : Int32)).toNatClampNeg) (hI g277 a0 (a3 + (2 : Int32)).toNatClampNeg) (hI g277 a0 (a3 + (3 : Int32)).toNatClampNeg) g277) c284 cw_L_69 rfl ⟨⟨Nat.le_of_ble_eq_true rfl, Nat.le_of_ble_eq_true rfl⟩, Nat.le_of_ble_eq_true rfl⟩ rfl (by decide +kernel) (fun w287 g285 e286 => ?_)
                              refine s_icmp_eq (pc := 598) (off := 695) 1293 (by decide +kernel) (by decide) (fun _ => ?_) (fun _ => ?_)
                              · exact pL_law_b1293 hr18 a0 a1 a2 a3 g285
                              · refine s_iconst (pc := 601) (n := 0) (v := (0 : Int32)) (by decide) (by decide +kernel) ?_
                                exact s_zret (pc := 602) (by decide) rfl (by decide +kernel)
                            · refine S_ite (fun e => ?_) (fun ne13 => ?_)
                              · refine s_tableIn (pc := 33) (dflt := 1260) (lo := 0) (hi := 33) (offs := #[151, 214, 237, 260, 273, 316, 339, 372, 405, 438, 461, 484, 527, 570, 603, 626, 649, 662, 685, 708, 742, 785, 829, 862, 906, 939, 972, 1016, 1050, 1094, 1137, 1191, 1224, 1247]) (len := 151) (off := 570) 603 (by decide +kernel) (by rw [e]; decide) (by rw [e]; decide) (by rw [e]; rfl) (by decide) ?_
                                refine s_aload_n (pc := 603) (k0 := 1) (i := 1) rfl 1 rfl (by decide +kernel) ?_
                                refine s_aload_n (pc := 604) (k0 := 0) (i := 0) rfl 0 rfl (by decide +kernel) ?_
                                refine s_iload_n (pc := 605) (k0 := 3) (i := 3) rfl 3 rfl (by decide +kernel) ?_
                                refine s_iconst (pc := 606) (n := 1) (v := (1 : Int32)) (by decide) (by decide +kernel) ?_
                                refine s_iadd (pc := 607) (by decide +kernel) ?_
                                refine S_gd (fun c260 => ?_)
                                refine s_iald (pc := 608) c1 c260 (by decide +kernel) ?_
                                refine s_aload_n (pc := 609) (k0 := 0) (i := 0) rfl 0 rfl (by decide +kernel) ?_
                                refine s_iload_n (pc := 610) (k0 := 3) (i := 3) rfl 3 rfl (by decide +kernel) ?_
                                refine s_iconst (pc := 611) (n := 2) (v := (2 : Int32)) (by decide) (by decide +kernel) ?_
                                refine s_iadd (pc := 612) (by decide +kernel) ?_
                                refine S_gd (fun c261 => ?_)
                                refine s_iald (pc := 613) c1 c261 (by decide +kernel) ?_
                                refine S_gd (fun c262 => ?_)
                                refine s_cVi (pc := 614) [.int (hI h a0 (a3 + (1 : Int32)).toNatClampNeg), .int (hI h a0 (a3 + (2 : Int32)).toNatClampNeg)] (tX6_times a1 (hI h a0 (a3 + (1 : Int32)).toNatClampNeg) (hI h a0 (a3 + (2 : Int32)).toNatClampNeg) h) c262 cw_L_70 rfl ⟨⟨Nat.le_of_ble_eq_true rfl, Nat.le_of_ble_eq_true rfl⟩, Nat.le_of_ble_eq_true rfl⟩ rfl (by decide +kernel) (fun w265 g263 e264 => ?_)
                                refine s_aload_n (pc := 617) (k0 := 2) (i := 2) rfl 2 rfl (by decide +kernel) ?_
                                refine s_aload_n (pc := 618) (k0 := 0) (i := 0) rfl 0 rfl (by decide +kernel) ?_
                                refine s_iload_n (pc := 619) (k0 := 3) (i := 3) rfl 3 rfl (by decide +kernel) ?_
                                refine s_iconst (pc := 620) (n := 1) (v := (1 : Int32)) (by decide) (by decide +kernel) ?_
                                refine s_iadd (pc := 621) (by decide +kernel) ?_
                                have c266 := kp e264 c1 (by decide)
                                refine S_gd (fun c267 => ?_)
                                refine s_iald (pc := 622) c266 c267 (by decide +kernel) ?_
                                refine s_aload_n (pc := 623) (k0 := 0) (i := 0) rfl 0 rfl (by decide +kernel) ?_
                                refine s_iload_n (pc := 624) (k0 := 3) (i := 3) rfl 3 rfl (by decide +kernel) ?_
                                refine s_iconst (pc := 625) (n := 2) (v := (2 : Int32)) (by decide) (by decide +kernel) ?_
                                refine s_iadd (pc := 626) (by decide +kernel) ?_
                                refine S_gd (fun c268 => ?_)
                                refine s_iald (pc := 627) c266 c268 (by decide +kernel) ?_
                                refine S_gd (fun c269 => ?_)
                                refine s_cVi (pc := 628) [.int (hI g263 a0 (a3 + (1 : Int32)).toNatClampNeg), .int (hI g263 a0 (a3 + (2 : Int32)).toNatClampNeg)] (tX7_times a2 (hI g263 a0 (a3 + (1 : Int32)).toNatClampNeg) (hI g263 a0 (a3 + (2 : Int32)).toNatClampNeg) g263) c269 cw_L_73 rfl ⟨⟨Nat.le_of_ble_eq_true rfl, Nat.le_of_ble_eq_true rfl⟩, Nat.le_of_ble_eq_true rfl⟩ rfl (by decide +kernel) (fun w272 g270 e271 => ?_)
                                refine s_icmp_eq (pc := 631) (off := 662) 1293 (by decide +kernel) (by decide) (fun _ => ?_) (fun _ => ?_)
                                · exact pL_law_b1293 hr18 a0 a1 a2 a3 g270
                                · refine s_iconst (pc := 634) (n := 0) (v := (0 : Int32)) (by decide) (by decide +kernel) ?_
                                  exact s_zret (pc := 635) (by decide) rfl (by decide +kernel)
                              · refine S_ite (fun e => ?_) (fun ne14 => ?_)
                                · refine s_tableIn (pc := 33) (dflt := 1260) (lo := 0) (hi := 33) (offs := #[151, 214, 237, 260, 273, 316, 339, 372, 405, 438, 461, 484, 527, 570, 603, 626, 649, 662, 685, 708, 742, 785, 829, 862, 906, 939, 972, 1016, 1050, 1094, 1137, 1191, 1224, 1247]) (len := 151) (off := 603) 636 (by decide +kernel) (by rw [e]; decide) (by rw [e]; decide) (by rw [e]; rfl) (by decide) ?_
                                  refine s_aload_n (pc := 636) (k0 := 1) (i := 1) rfl 1 rfl (by decide +kernel) ?_
                                  refine s_aload_n (pc := 637) (k0 := 0) (i := 0) rfl 0 rfl (by decide +kernel) ?_
                                  refine s_iload_n (pc := 638) (k0 := 3) (i := 3) rfl 3 rfl (by decide +kernel) ?_
                                  refine s_iconst (pc := 639) (n := 1) (v := (1 : Int32)) (by decide) (by decide +kernel) ?_
                                  refine s_iadd (pc := 640) (by decide +kernel) ?_
                                  refine S_gd (fun c249 => ?_)
                                  refine s_iald (pc := 641) c1 c249 (by decide +kernel) ?_
                                  refine S_gd (fun c250 => ?_)
                                  refine s_cVi (pc := 642) [.int (hI h a0 (a3 + (1 : Int32)).toNatClampNeg)] (tX6_lay a1 (hI h a0 (a3 + (1 : Int32)).toNatClampNeg) h) c250 cw_L_74 rfl ⟨⟨Nat.le_of_ble_eq_true rfl, Nat.le_of_ble_eq_true rfl⟩, Nat.le_of_ble_eq_true rfl⟩ rfl (by decide +kernel) (fun w253 g251 e252 => ?_)
                                  refine s_aload_n (pc := 645) (k0 := 2) (i := 2) rfl 2 rfl (by decide +kernel) ?_
                                  refine s_aload_n (pc := 646) (k0 := 0) (i := 0) rfl 0 rfl (by decide +kernel) ?_
                                  refine s_iload_n (pc := 647) (k0 := 3) (i := 3) rfl 3 rfl (by decide +kernel) ?_
                                  refine s_iconst (pc := 648) (n := 1) (v := (1 : Int32)) (by decide) (by decide +kernel) ?_
                                  refine s_iadd (pc := 649) (by decide +kernel) ?_
                                  have c254 := kp e252 c1 (by decide)
                                  refine S_gd (fun c255 => ?_)
                                  refine s_iald (pc := 650) c254 c255 (by decide +kernel) ?_
                                  refine S_gd (fun c256 => ?_)
                                  refine s_cVi (pc := 651) [.int (hI g251 a0 (a3 + (1 : Int32)).toNatClampNeg)] (tX7_lay_ a2 (hI g251 a0 (a3 + (1 : Int32)).toNatClampNeg) g251) c256 cw_L_77 rfl ⟨⟨Nat.le_of_ble_eq_true rfl, Nat.le_of_ble_eq_true rfl⟩, Nat.le_of_ble_eq_true rfl⟩ rfl (by decide +kernel) (fun w259 g257 e258 => ?_)
                                  refine s_icmp_eq (pc := 654) (off := 639) 1293 (by decide +kernel) (by decide) (fun _ => ?_) (fun _ => ?_)
                                  · exact pL_law_b1293 hr18 a0 a1 a2 a3 g257
                                  · refine s_iconst (pc := 657) (n := 0) (v := (0 : Int32)) (by decide) (by decide +kernel) ?_
                                    exact s_zret (pc := 658) (by decide) rfl (by decide +kernel)
                                · refine S_ite (fun e => ?_) (fun ne15 => ?_)
                                  · refine s_tableIn (pc := 33) (dflt := 1260) (lo := 0) (hi := 33) (offs := #[151, 214, 237, 260, 273, 316, 339, 372, 405, 438, 461, 484, 527, 570, 603, 626, 649, 662, 685, 708, 742, 785, 829, 862, 906, 939, 972, 1016, 1050, 1094, 1137, 1191, 1224, 1247]) (len := 151) (off := 626) 659 (by decide +kernel) (by rw [e]; decide) (by rw [e]; decide) (by rw [e]; rfl) (by decide) ?_
                                    refine s_aload_n (pc := 659) (k0 := 1) (i := 1) rfl 1 rfl (by decide +kernel) ?_
                                    refine s_aload_n (pc := 660) (k0 := 0) (i := 0) rfl 0 rfl (by decide +kernel) ?_
                                    refine s_iload_n (pc := 661) (k0 := 3) (i := 3) rfl 3 rfl (by decide +kernel) ?_
                                    refine s_iconst (pc := 662) (n := 1) (v := (1 : Int32)) (by decide) (by decide +kernel) ?_
                                    refine s_iadd (pc := 663) (by decide +kernel) ?_
                                    refine S_gd (fun c238 => ?_)
                                    refine s_iald (pc := 664) c1 c238 (by decide +kernel) ?_
                                    refine S_gd (fun c239 => ?_)
                                    refine s_cVi (pc := 665) [.int (hI h a0 (a3 + (1 : Int32)).toNatClampNeg)] (tX6_put a1 (hI h a0 (a3 + (1 : Int32)).toNatClampNeg) h) c239 cw_L_78 rfl ⟨⟨Nat.le_of_ble_eq_true rfl, Nat.le_of_ble_eq_true rfl⟩, Nat.le_of_ble_eq_true rfl⟩ rfl (by decide +kernel) (fun w242 g240 e241 => ?_)
                                    refine s_aload_n (pc := 668) (k0 := 2) (i := 2) rfl 2 rfl (by decide +kernel) ?_
                                    refine s_aload_n (pc := 669) (k0 := 0) (i := 0) rfl 0 rfl (by decide +kernel) ?_
                                    refine s_iload_n (pc := 670) (k0 := 3) (i := 3) rfl 3 rfl (by decide +kernel) ?_
                                    refine s_iconst (pc := 671) (n := 1) (v := (1 : Int32)) (by decide) (by decide +kernel) ?_
                                    refine s_iadd (pc := 672) (by decide +kernel) ?_
                                    have c243 := kp e241 c1 (by decide)
                                    refine S_gd (fun c244 => ?_)
                                    refine s_iald (pc := 673) c243 c244 (by decide +kernel) ?_
                                    refine S_gd (fun c245 => ?_)
                                    refine s_cVi (pc := 674) [.int (hI g240 a0 (a3 + (1 : Int32)).toNatClampNeg)] (tX7_put a2 (hI g240 a0 (a3 + (1 : Int32)).toNatClampNeg) g240) c245 cw_L_81 rfl ⟨⟨Nat.le_of_ble_eq_true rfl, Nat.le_of_ble_eq_true rfl⟩, Nat.le_of_ble_eq_true rfl⟩ rfl (by decide +kernel) (fun w248 g246 e247 => ?_)
                                    refine s_icmp_eq (pc := 677) (off := 616) 1293 (by decide +kernel) (by decide) (fun _ => ?_) (fun _ => ?_)
                                    · exact pL_law_b1293 hr18 a0 a1 a2 a3 g246
                                    · refine s_iconst (pc := 680) (n := 0) (v := (0 : Int32)) (by decide) (by decide +kernel) ?_
                                      exact s_zret (pc := 681) (by decide) rfl (by decide +kernel)
                                  · refine S_ite (fun e => ?_) (fun ne16 => ?_)
                                    · refine s_tableIn (pc := 33) (dflt := 1260) (lo := 0) (hi := 33) (offs := #[151, 214, 237, 260, 273, 316, 339, 372, 405, 438, 461, 484, 527, 570, 603, 626, 649, 662, 685, 708, 742, 785, 829, 862, 906, 939, 972, 1016, 1050, 1094, 1137, 1191, 1224, 1247]) (len := 151) (off := 649) 682 (by decide +kernel) (by rw [e]; decide) (by rw [e]; decide) (by rw [e]; rfl) (by decide) ?_
                                      refine s_aload_n (pc := 682) (k0 := 1) (i := 1) rfl 1 rfl (by decide +kernel) ?_
                                      refine S_gd (fun c230 => ?_)
                                      refine s_cVi (pc := 683) [] (tX6_undo a1 h) c230 cw_L_82 rfl ⟨⟨Nat.le_of_ble_eq_true rfl, Nat.le_of_ble_eq_true rfl⟩, Nat.le_of_ble_eq_true rfl⟩ rfl (by decide +kernel) (fun w233 g231 e232 => ?_)
                                      refine s_aload_n (pc := 686) (k0 := 2) (i := 2) rfl 2 rfl (by decide +kernel) ?_
                                      refine S_gd (fun c234 => ?_)
                                      refine s_cVi (pc := 687) [] (tX7_undo a2 g231) c234 cw_L_85 rfl ⟨⟨Nat.le_of_ble_eq_true rfl, Nat.le_of_ble_eq_true rfl⟩, Nat.le_of_ble_eq_true rfl⟩ rfl (by decide +kernel) (fun w237 g235 e236 => ?_)
                                      refine s_icmp_eq (pc := 690) (off := 603) 1293 (by decide +kernel) (by decide) (fun _ => ?_) (fun _ => ?_)
                                      · exact pL_law_b1293 hr18 a0 a1 a2 a3 g235
                                      · refine s_iconst (pc := 693) (n := 0) (v := (0 : Int32)) (by decide) (by decide +kernel) ?_
                                        exact s_zret (pc := 694) (by decide) rfl (by decide +kernel)
                                    · refine S_ite (fun e => ?_) (fun ne17 => ?_)
                                      · refine s_tableIn (pc := 33) (dflt := 1260) (lo := 0) (hi := 33) (offs := #[151, 214, 237, 260, 273, 316, 339, 372, 405, 438, 461, 484, 527, 570, 603, 626, 649, 662, 685, 708, 742, 785, 829, 862, 906, 939, 972, 1016, 1050, 1094, 1137, 1191, 1224, 1247]) (len := 151) (off := 662) 695 (by decide +kernel) (by rw [e]; decide) (by rw [e]; decide) (by rw [e]; rfl) (by decide) ?_
                                        refine s_aload_n (pc := 695) (k0 := 1) (i := 1) rfl 1 rfl (by decide +kernel) ?_
                                        refine s_aload_n (pc := 696) (k0 := 0) (i := 0) rfl 0 rfl (by decide +kernel) ?_
                                        refine s_iload_n (pc := 697) (k0 := 3) (i := 3) rfl 3 rfl (by decide +kernel) ?_
                                        refine s_iconst (pc := 698) (n := 1) (v := (1 : Int32)) (by decide) (by decide +kernel) ?_
                                        refine s_iadd (pc := 699) (by decide +kernel) ?_
                                        refine S_gd (fun c219 => ?_)
                                        refine s_iald (pc := 700) c1 c219 (by decide +kernel) ?_
                                        refine S_gd (fun c220 => ?_)
                                        refine s_cVi (pc := 701) [.int (hI h a0 (a3 + (1 : Int32)).toNatClampNeg)] (tX6_image a1 (hI h a0 (a3 + (1 : Int32)).toNatClampNeg) h) c220 cw_L_86 rfl ⟨⟨Nat.le_of_ble_eq_true rfl, Nat.le_of_ble_eq_true rfl⟩, Nat.le_of_ble_eq_true rfl⟩ rfl (by decide +kernel) (fun w223 g221 e222 => ?_)
                                        refine s_aload_n (pc := 704) (k0 := 2) (i := 2) rfl 2 rfl (by decide +kernel) ?_
                                        refine s_aload_n (pc := 705) (k0 := 0) (i := 0) rfl 0 rfl (by decide +kernel) ?_
                                        refine s_iload_n (pc := 706) (k0 := 3) (i := 3) rfl 3 rfl (by decide +kernel) ?_
                                        refine s_iconst (pc := 707) (n := 1) (v := (1 : Int32)) (by decide) (by decide +kernel) ?_
                                        refine s_iadd (pc := 708) (by decide +kernel) ?_
                                        have c224 := kp e222 c1 (by decide)
                                        refine S_gd (fun c225 => ?_)
                                        refine s_iald (pc := 709) c224 c225 (by decide +kernel) ?_
                                        refine S_gd (fun c226 => ?_)
                                        refine s_cVi (pc := 710) [.int (hI g221 a0 (a3 + (1 : Int32)).toNatClampNeg)] (tX7_image a2 (hI g221 a0 (a3 + (1 : Int32)).toNatClampNeg) g221) c226 cw_L_89 rfl ⟨⟨Nat.le_of_ble_eq_true rfl, Nat.le_of_ble_eq_true rfl⟩, Nat.le_of_ble_eq_true rfl⟩ rfl (by decide +kernel) (fun w229 g227 e228 => ?_)
                                        refine s_icmp_eq (pc := 713) (off := 580) 1293 (by decide +kernel) (by decide) (fun _ => ?_) (fun _ => ?_)
                                        · exact pL_law_b1293 hr18 a0 a1 a2 a3 g227
                                        · refine s_iconst (pc := 716) (n := 0) (v := (0 : Int32)) (by decide) (by decide +kernel) ?_
                                          exact s_zret (pc := 717) (by decide) rfl (by decide +kernel)
                                      · refine S_ite (fun e => ?_) (fun ne18 => ?_)
                                        · refine s_tableIn (pc := 33) (dflt := 1260) (lo := 0) (hi := 33) (offs := #[151, 214, 237, 260, 273, 316, 339, 372, 405, 438, 461, 484, 527, 570, 603, 626, 649, 662, 685, 708, 742, 785, 829, 862, 906, 939, 972, 1016, 1050, 1094, 1137, 1191, 1224, 1247]) (len := 151) (off := 685) 718 (by decide +kernel) (by rw [e]; decide) (by rw [e]; decide) (by rw [e]; rfl) (by decide) ?_
                                          refine s_aload_n (pc := 718) (k0 := 1) (i := 1) rfl 1 rfl (by decide +kernel) ?_
                                          refine s_aload_n (pc := 719) (k0 := 0) (i := 0) rfl 0 rfl (by decide +kernel) ?_
                                          refine s_iload_n (pc := 720) (k0 := 3) (i := 3) rfl 3 rfl (by decide +kernel) ?_
                                          refine s_iconst (pc := 721) (n := 1) (v := (1 : Int32)) (by decide) (by decide +kernel) ?_
                                          refine s_iadd (pc := 722) (by decide +kernel) ?_
                                          refine S_gd (fun c208 => ?_)
                                          refine s_iald (pc := 723) c1 c208 (by decide +kernel) ?_
                                          refine S_gd (fun c209 => ?_)
                                          refine s_cVi (pc := 724) [.int (hI h a0 (a3 + (1 : Int32)).toNatClampNeg)] (tX6_back a1 (hI h a0 (a3 + (1 : Int32)).toNatClampNeg) h) c209 cw_L_90 rfl ⟨⟨Nat.le_of_ble_eq_true rfl, Nat.le_of_ble_eq_true rfl⟩, Nat.le_of_ble_eq_true rfl⟩ rfl (by decide +kernel) (fun w212 g210 e211 => ?_)
                                          refine s_aload_n (pc := 727) (k0 := 2) (i := 2) rfl 2 rfl (by decide +kernel) ?_
                                          refine s_aload_n (pc := 728) (k0 := 0) (i := 0) rfl 0 rfl (by decide +kernel) ?_
                                          refine s_iload_n (pc := 729) (k0 := 3) (i := 3) rfl 3 rfl (by decide +kernel) ?_
                                          refine s_iconst (pc := 730) (n := 1) (v := (1 : Int32)) (by decide) (by decide +kernel) ?_
                                          refine s_iadd (pc := 731) (by decide +kernel) ?_
                                          have c213 := kp e211 c1 (by decide)
                                          refine S_gd (fun c214 => ?_)
                                          refine s_iald (pc := 732) c213 c214 (by decide +kernel) ?_
                                          refine S_gd (fun c215 => ?_)
                                          refine s_cVi (pc := 733) [.int (hI g210 a0 (a3 + (1 : Int32)).toNatClampNeg)] (tX7_back a2 (hI g210 a0 (a3 + (1 : Int32)).toNatClampNeg) g210) c215 cw_L_93 rfl ⟨⟨Nat.le_of_ble_eq_true rfl, Nat.le_of_ble_eq_true rfl⟩, Nat.le_of_ble_eq_true rfl⟩ rfl (by decide +kernel) (fun w218 g216 e217 => ?_)
                                          refine s_icmp_eq (pc := 736) (off := 557) 1293 (by decide +kernel) (by decide) (fun _ => ?_) (fun _ => ?_)
                                          · exact pL_law_b1293 hr18 a0 a1 a2 a3 g216
                                          · refine s_iconst (pc := 739) (n := 0) (v := (0 : Int32)) (by decide) (by decide +kernel) ?_
                                            exact s_zret (pc := 740) (by decide) rfl (by decide +kernel)
                                        · refine S_ite (fun e => ?_) (fun ne19 => ?_)
                                          · refine s_tableIn (pc := 33) (dflt := 1260) (lo := 0) (hi := 33) (offs := #[151, 214, 237, 260, 273, 316, 339, 372, 405, 438, 461, 484, 527, 570, 603, 626, 649, 662, 685, 708, 742, 785, 829, 862, 906, 939, 972, 1016, 1050, 1094, 1137, 1191, 1224, 1247]) (len := 151) (off := 708) 741 (by decide +kernel) (by rw [e]; decide) (by rw [e]; decide) (by rw [e]; rfl) (by decide) ?_
                                            refine s_aload_n (pc := 741) (k0 := 1) (i := 1) rfl 1 rfl (by decide +kernel) ?_
                                            refine s_aload_n (pc := 742) (k0 := 0) (i := 0) rfl 0 rfl (by decide +kernel) ?_
                                            refine s_iload_n (pc := 743) (k0 := 3) (i := 3) rfl 3 rfl (by decide +kernel) ?_
                                            refine s_iconst (pc := 744) (n := 1) (v := (1 : Int32)) (by decide) (by decide +kernel) ?_
                                            refine s_iadd (pc := 745) (by decide +kernel) ?_
                                            refine S_gd (fun c195 => ?_)
                                            refine s_iald (pc := 746) c1 c195 (by decide +kernel) ?_
                                            refine s_aload_n (pc := 747) (k0 := 0) (i := 0) rfl 0 rfl (by decide +kernel) ?_
                                            refine s_iload_n (pc := 748) (k0 := 3) (i := 3) rfl 3 rfl (by decide +kernel) ?_
                                            refine s_iconst (pc := 749) (n := 2) (v := (2 : Int32)) (by decide) (by decide +kernel) ?_
                                            refine s_iadd (pc := 750) (by decide +kernel) ?_
                                            refine S_gd (fun c196 => ?_)
                                            refine s_iald (pc := 751) c1 c196 (by decide +kernel) ?_
                                            refine S_gd (fun c197 => ?_)
                                            refine s_cVj (pc := 752) [.int (hI h a0 (a3 + (1 : Int32)).toNatClampNeg), .int (hI h a0 (a3 + (2 : Int32)).toNatClampNeg)] (tX6_paper a1 (hI h a0 (a3 + (1 : Int32)).toNatClampNeg) (hI h a0 (a3 + (2 : Int32)).toNatClampNeg) h) c197 cw_L_94 rfl ⟨⟨Nat.le_of_ble_eq_true rfl, Nat.le_of_ble_eq_true rfl⟩, Nat.le_of_ble_eq_true rfl⟩ rfl (by decide +kernel) (fun w200 g198 e199 => ?_)
                                            refine s_aload_n (pc := 755) (k0 := 2) (i := 2) rfl 2 rfl (by decide +kernel) ?_
                                            refine s_aload_n (pc := 756) (k0 := 0) (i := 0) rfl 0 rfl (by decide +kernel) ?_
                                            refine s_iload_n (pc := 757) (k0 := 3) (i := 3) rfl 3 rfl (by decide +kernel) ?_
                                            refine s_iconst (pc := 758) (n := 1) (v := (1 : Int32)) (by decide) (by decide +kernel) ?_
                                            refine s_iadd (pc := 759) (by decide +kernel) ?_
                                            have c201 := kp e199 c1 (by decide)
                                            refine S_gd (fun c202 => ?_)
                                            refine s_iald (pc := 760) c201 c202 (by decide +kernel) ?_
                                            refine s_aload_n (pc := 761) (k0 := 0) (i := 0) rfl 0 rfl (by decide +kernel) ?_
                                            refine s_iload_n (pc := 762) (k0 := 3) (i := 3) rfl 3 rfl (by decide +kernel) ?_
                                            refine s_iconst (pc := 763) (n := 2) (v := (2 : Int32)) (by decide) (by decide +kernel) ?_
                                            refine s_iadd (pc := 764) (by decide +kernel) ?_
                                            refine S_gd (fun c203 => ?_)
                                            refine s_iald (pc := 765) c201 c203 (by decide +kernel) ?_
                                            refine S_gd (fun c204 => ?_)
                                            refine s_cVj (pc := 766) [.int (hI g198 a0 (a3 + (1 : Int32)).toNatClampNeg), .int (hI g198 a0 (a3 + (2 : Int32)).toNatClampNeg)] (tX7_paper a2 (hI g198 a0 (a3 + (1 : Int32)).toNatClampNeg) (hI g198 a0 (a3 + (2 : Int32)).toNatClampNeg) g198) c204 cw_L_98 rfl ⟨⟨Nat.le_of_ble_eq_true rfl, Nat.le_of_ble_eq_true rfl⟩, Nat.le_of_ble_eq_true rfl⟩ rfl (by decide +kernel) (fun w207 g205 e206 => ?_)
                                            refine s_lcmp (pc := 769) (by decide +kernel) ?_
                                            refine s_if_eq (pc := 770) (off := 523) 1293 (by decide +kernel) (by decide) (fun _ => ?_) (fun _ => ?_)
                                            · exact pL_law_b1293 hr18 a0 a1 a2 a3 g205
                                            · refine s_iconst (pc := 773) (n := 0) (v := (0 : Int32)) (by decide) (by decide +kernel) ?_
                                              exact s_zret (pc := 774) (by decide) rfl (by decide +kernel)
                                          · refine S_ite (fun e => ?_) (fun ne20 => ?_)
                                            · refine s_tableIn (pc := 33) (dflt := 1260) (lo := 0) (hi := 33) (offs := #[151, 214, 237, 260, 273, 316, 339, 372, 405, 438, 461, 484, 527, 570, 603, 626, 649, 662, 685, 708, 742, 785, 829, 862, 906, 939, 972, 1016, 1050, 1094, 1137, 1191, 1224, 1247]) (len := 151) (off := 742) 775 (by decide +kernel) (by rw [e]; decide) (by rw [e]; decide) (by rw [e]; rfl) (by decide) ?_
                                              refine s_aload_n (pc := 775) (k0 := 1) (i := 1) rfl 1 rfl (by decide +kernel) ?_
                                              refine s_aload_n (pc := 776) (k0 := 0) (i := 0) rfl 0 rfl (by decide +kernel) ?_
                                              refine s_iload_n (pc := 777) (k0 := 3) (i := 3) rfl 3 rfl (by decide +kernel) ?_
                                              refine s_iconst (pc := 778) (n := 1) (v := (1 : Int32)) (by decide) (by decide +kernel) ?_
                                              refine s_iadd (pc := 779) (by decide +kernel) ?_
                                              refine S_gd (fun c180 => ?_)
                                              refine s_iald (pc := 780) c1 c180 (by decide +kernel) ?_
                                              refine s_aload_n (pc := 781) (k0 := 0) (i := 0) rfl 0 rfl (by decide +kernel) ?_
                                              refine s_iload_n (pc := 782) (k0 := 3) (i := 3) rfl 3 rfl (by decide +kernel) ?_
                                              refine s_iconst (pc := 783) (n := 2) (v := (2 : Int32)) (by decide) (by decide +kernel) ?_
                                              refine s_iadd (pc := 784) (by decide +kernel) ?_
                                              refine S_gd (fun c181 => ?_)
                                              refine s_iald (pc := 785) c1 c181 (by decide +kernel) ?_
                                              refine s_aload_n (pc := 786) (k0 := 0) (i := 0) rfl 0 rfl (by decide +kernel) ?_
                                              refine s_iload_n (pc := 787) (k0 := 3) (i := 3) rfl 3 rfl (by decide +kernel) ?_
                                              refine s_iconst (pc := 788) (n := 3) (v := (3 : Int32)) (by decide) (by decide +kernel) ?_
                                              refine s_iadd (pc := 789) (by decide +kernel) ?_
                                              refine S_gd (fun c182 => ?_)
                                              refine s_iald (pc := 790) c1 c182 (by decide +kernel) ?_
                                              refine S_gd (fun c183 => ?_)
                                              refine s_cVi (pc := 791) [.int (hI h a0 (a3 + (1 : Int32)).toNatClampNeg), .int (hI h a0 (a3 + (2 : Int32)).toNatClampNeg), .int (hI h a0 (a3 + (3 : Int32)).toNatClampNeg)] (tX6_knot a1 (hI h a0 (a3 + (1 : Int32)).toNatClampNeg) (hI h a0 (a3 + (2 : Int32)).toNatClampNeg) (hI h a0 (a3 + (3 : Int32)).toNatClampNeg) h) c183 cw_L_99 rfl ⟨⟨Nat.le_of_ble_eq_true rfl, Nat.le_of_ble_eq_true rfl⟩, Nat.le_of_ble_eq_true rfl⟩ rfl (by decide +kernel) (fun w186 g184 e185 => ?_)
                                              refine s_aload_n (pc := 794) (k0 := 2) (i := 2) rfl 2 rfl (by decide +kernel) ?_
                                              refine s_aload_n (pc := 795) (k0 := 0) (i := 0) rfl 0 rfl (by decide +kernel) ?_
                                              refine s_iload_n (pc := 796) (k0 := 3) (i := 3) rfl 3 rfl (by decide +kernel) ?_
                                              refine s_iconst (pc := 797) (n := 1) (v := (1 : Int32)) (by decide) (by decide +kernel) ?_
                                              refine s_iadd (pc := 798) (by decide +kernel) ?_
                                              have c187 := kp e185 c1 (by decide)
                                              refine S_gd (fun c188 => ?_)
                                              refine s_iald (pc := 799) c187 c188 (by decide +kernel) ?_
                                              refine s_aload_n (pc := 800) (k0 := 0) (i := 0) rfl 0 rfl (by decide +kernel) ?_
                                              refine s_iload_n (pc := 801) (k0 := 3) (i := 3) rfl 3 rfl (by decide +kernel) ?_
                                              refine s_iconst (pc := 802) (n := 2) (v := (2 : Int32)) (by decide) (by decide +kernel) ?_
                                              refine s_iadd (pc := 803) (by decide +kernel) ?_
                                              refine S_gd (fun c189 => ?_)
                                              refine s_iald (pc := 804) c187 c189 (by decide +kernel) ?_
                                              refine s_aload_n (pc := 805) (k0 := 0) (i := 0) rfl 0 rfl (by decide +kernel) ?_
                                              refine s_iload_n (pc := 806) (k0 := 3) (i := 3) rfl 3 rfl (by decide +kernel) ?_
                                              refine s_iconst (pc := 807) (n := 3) (v := (3 : Int32)) (by decide) (by decide +kernel) ?_
                                              refine s_iadd (pc := 808) (by decide +kernel) ?_
                                              refine S_gd (fun c190 => ?_)
                                              refine s_iald (pc := 809) c187 c190 (by decide +kernel) ?_
                                              refine S_gd (fun c191 => ?_)
                                              refine s_cVi (pc := 810) [.int (hI g184 a0 (a3 + (1 : Int32)).toNatClampNeg), .int (hI g184 a0 (a3 + (2 : Int32)).toNatClampNeg), .int (hI g184 a0 (a3 + (3 : Int32)).toNatClampNeg)] (tX7_knot_ a2 (hI g184 a0 (a3 + (1 : Int32)).toNatClampNeg) (hI g184 a0 (a3 + (2 : Int32)).toNatClampNeg) (hI g184 a0 (a3 + (3 : Int32)).toNatClampNeg) g184) c191 cw_L_102 rfl ⟨⟨Nat.le_of_ble_eq_true rfl, Nat.le_of_ble_eq_true rfl⟩, Nat.le_of_ble_eq_true rfl⟩ rfl (by decide +kernel) (fun w194 g192 e193 => ?_)
                                              refine s_icmp_eq (pc := 813) (off := 480) 1293 (by decide +kernel) (by decide) (fun _ => ?_) (fun _ => ?_)
                                              · exact pL_law_b1293 hr18 a0 a1 a2 a3 g192
                                              · refine s_iconst (pc := 816) (n := 0) (v := (0 : Int32)) (by decide) (by decide +kernel) ?_
                                                exact s_zret (pc := 817) (by decide) rfl (by decide +kernel)
                                            · refine S_ite (fun e => ?_) (fun ne21 => ?_)
                                              · refine s_tableIn (pc := 33) (dflt := 1260) (lo := 0) (hi := 33) (offs := #[151, 214, 237, 260, 273, 316, 339, 372, 405, 438, 461, 484, 527, 570, 603, 626, 649, 662, 685, 708, 742, 785, 829, 862, 906, 939, 972, 1016, 1050, 1094, 1137, 1191, 1224, 1247]) (len := 151) (off := 785) 818 (by decide +kernel) (by rw [e]; decide) (by rw [e]; decide) (by rw [e]; rfl) (by decide) ?_
                                                refine s_aload_n (pc := 818) (k0 := 1) (i := 1) rfl 1 rfl (by decide +kernel) ?_
                                                refine s_aload_n (pc := 819) (k0 := 0) (i := 0) rfl 0 rfl (by decide +kernel) ?_
                                                refine s_iload_n (pc := 820) (k0 := 3) (i := 3) rfl 3 rfl (by decide +kernel) ?_
                                                refine s_iconst (pc := 821) (n := 1) (v := (1 : Int32)) (by decide) (by decide +kernel) ?_
                                                refine s_iadd (pc := 822) (by decide +kernel) ?_
                                                refine S_gd (fun c165 => ?_)
                                                refine s_iald (pc := 823) c1 c165 (by decide +kernel) ?_
                                                refine s_aload_n (pc := 824) (k0 := 0) (i := 0) rfl 0 rfl (by decide +kernel) ?_
                                                refine s_iload_n (pc := 825) (k0 := 3) (i := 3) rfl 3 rfl (by decide +kernel) ?_
                                                refine s_iconst (pc := 826) (n := 2) (v := (2 : Int32)) (by decide) (by decide +kernel) ?_
                                                refine s_iadd (pc := 827) (by decide +kernel) ?_
                                                refine S_gd (fun c166 => ?_)
                                                refine s_iald (pc := 828) c1 c166 (by decide +kernel) ?_
                                                refine s_aload_n (pc := 829) (k0 := 0) (i := 0) rfl 0 rfl (by decide +kernel) ?_
                                                refine s_iload_n (pc := 830) (k0 := 3) (i := 3) rfl 3 rfl (by decide +kernel) ?_
                                                refine s_iconst (pc := 831) (n := 3) (v := (3 : Int32)) (by decide) (by decide +kernel) ?_
                                                refine s_iadd (pc := 832) (by decide +kernel) ?_
                                                refine S_gd (fun c167 => ?_)
                                                refine s_iald (pc := 833) c1 c167 (by decide +kernel) ?_
                                                refine S_gd (fun c168 => ?_)
                                                refine s_cVj (pc := 834) [.int (hI h a0 (a3 + (1 : Int32)).toNatClampNeg), .int (hI h a0 (a3 + (2 : Int32)).toNatClampNeg), .int (hI h a0 (a3 + (3 : Int32)).toNatClampNeg)] (tX6_value a1 (hI h a0 (a3 + (1 : Int32)).toNatClampNeg) (hI h a0 (a3 + (2 : Int32)).toNatClampNeg) (hI h a0 (a3 + (3 : Int32)).toNatClampNeg) h) c168 cw_L_103 rfl ⟨⟨Nat.le_of_ble_eq_true rfl, Nat.le_of_ble_eq_true rfl⟩, Nat.le_of_ble_eq_true rfl⟩ rfl (by decide +kernel) (fun w171 g169 e170 => ?_)
                                                refine s_aload_n (pc := 837) (k0 := 2) (i := 2) rfl 2 rfl (by decide +kernel) ?_
                                                refine s_aload_n (pc := 838) (k0 := 0) (i := 0) rfl 0 rfl (by decide +kernel) ?_
                                                refine s_iload_n (pc := 839) (k0 := 3) (i := 3) rfl 3 rfl (by decide +kernel) ?_
                                                refine s_iconst (pc := 840) (n := 1) (v := (1 : Int32)) (by decide) (by decide +kernel) ?_
                                                refine s_iadd (pc := 841) (by decide +kernel) ?_
                                                have c172 := kp e170 c1 (by decide)
                                                refine S_gd (fun c173 => ?_)
                                                refine s_iald (pc := 842) c172 c173 (by decide +kernel) ?_
                                                refine s_aload_n (pc := 843) (k0 := 0) (i := 0) rfl 0 rfl (by decide +kernel) ?_
                                                refine s_iload_n (pc := 844) (k0 := 3) (i := 3) rfl 3 rfl (by decide +kernel) ?_
                                                refine s_iconst (pc := 845) (n := 2) (v := (2 : Int32)) (by decide) (by decide +kernel) ?_
                                                refine s_iadd (pc := 846) (by decide +kernel) ?_
                                                refine S_gd (fun c174 => ?_)
                                                refine s_iald (pc := 847) c172 c174 (by decide +kernel) ?_
                                                refine s_aload_n (pc := 848) (k0 := 0) (i := 0) rfl 0 rfl (by decide +kernel) ?_
                                                refine s_iload_n (pc := 849) (k0 := 3) (i := 3) rfl 3 rfl (by decide +kernel) ?_
                                                refine s_iconst (pc := 850) (n := 3) (v := (3 : Int32)) (by decide) (by decide +kernel) ?_
                                                refine s_iadd (pc := 851) (by decide +kernel) ?_
                                                refine S_gd (fun c175 => ?_)
                                                refine s_iald (pc := 852) c172 c175 (by decide +kernel) ?_
                                                refine S_gd (fun c176 => ?_)
                                                refine s_cVj (pc := 853) [.int (hI g169 a0 (a3 + (1 : Int32)).toNatClampNeg), .int (hI g169 a0 (a3 + (2 : Int32)).toNatClampNeg), .int (hI g169 a0 (a3 + (3 : Int32)).toNatClampNeg)] (tX7_value a2 (hI g169 a0 (a3 + (1 : Int32)).toNatClampNeg) (hI g169 a0 (a3 + (2 : Int32)).toNatClampNeg) (hI g169 a0 (a3 + (3 : Int32)).toNatClampNeg) g169) c176 cw_L_107 rfl ⟨⟨Nat.le_of_ble_eq_true rfl, Nat.le_of_ble_eq_true rfl⟩, Nat.le_of_ble_eq_true rfl⟩ rfl (by decide +kernel) (fun w179 g177 e178 => ?_)
                                                refine s_lcmp (pc := 856) (by decide +kernel) ?_
                                                refine s_if_eq (pc := 857) (off := 436) 1293 (by decide +kernel) (by decide) (fun _ => ?_) (fun _ => ?_)
                                                · exact pL_law_b1293 hr18 a0 a1 a2 a3 g177
                                                · refine s_iconst (pc := 860) (n := 0) (v := (0 : Int32)) (by decide) (by decide +kernel) ?_
                                                  exact s_zret (pc := 861) (by decide) rfl (by decide +kernel)
                                              · refine S_ite (fun e => ?_) (fun ne22 => ?_)
                                                · refine s_tableIn (pc := 33) (dflt := 1260) (lo := 0) (hi := 33) (offs := #[151, 214, 237, 260, 273, 316, 339, 372, 405, 438, 461, 484, 527, 570, 603, 626, 649, 662, 685, 708, 742, 785, 829, 862, 906, 939, 972, 1016, 1050, 1094, 1137, 1191, 1224, 1247]) (len := 151) (off := 829) 862 (by decide +kernel) (by rw [e]; decide) (by rw [e]; decide) (by rw [e]; rfl) (by decide) ?_
                                                  refine s_aload_n (pc := 862) (k0 := 1) (i := 1) rfl 1 rfl (by decide +kernel) ?_
                                                  refine s_aload_n (pc := 863) (k0 := 0) (i := 0) rfl 0 rfl (by decide +kernel) ?_
                                                  refine s_iload_n (pc := 864) (k0 := 3) (i := 3) rfl 3 rfl (by decide +kernel) ?_
                                                  refine s_iconst (pc := 865) (n := 1) (v := (1 : Int32)) (by decide) (by decide +kernel) ?_
                                                  refine s_iadd (pc := 866) (by decide +kernel) ?_
                                                  refine S_gd (fun c152 => ?_)
                                                  refine s_iald (pc := 867) c1 c152 (by decide +kernel) ?_
                                                  refine s_aload_n (pc := 868) (k0 := 0) (i := 0) rfl 0 rfl (by decide +kernel) ?_
                                                  refine s_iload_n (pc := 869) (k0 := 3) (i := 3) rfl 3 rfl (by decide +kernel) ?_
                                                  refine s_iconst (pc := 870) (n := 2) (v := (2 : Int32)) (by decide) (by decide +kernel) ?_
                                                  refine s_iadd (pc := 871) (by decide +kernel) ?_
                                                  refine S_gd (fun c153 => ?_)
                                                  refine s_iald (pc := 872) c1 c153 (by decide +kernel) ?_
                                                  refine S_gd (fun c154 => ?_)
                                                  refine s_cVi (pc := 873) [.int (hI h a0 (a3 + (1 : Int32)).toNatClampNeg), .int (hI h a0 (a3 + (2 : Int32)).toNatClampNeg)] (tX6_bits a1 (hI h a0 (a3 + (1 : Int32)).toNatClampNeg) (hI h a0 (a3 + (2 : Int32)).toNatClampNeg) h) c154 cw_L_108 rfl ⟨⟨Nat.le_of_ble_eq_true rfl, Nat.le_of_ble_eq_true rfl⟩, Nat.le_of_ble_eq_true rfl⟩ rfl (by decide +kernel) (fun w157 g155 e156 => ?_)
                                                  refine s_aload_n (pc := 876) (k0 := 2) (i := 2) rfl 2 rfl (by decide +kernel) ?_
                                                  refine s_aload_n (pc := 877) (k0 := 0) (i := 0) rfl 0 rfl (by decide +kernel) ?_
                                                  refine s_iload_n (pc := 878) (k0 := 3) (i := 3) rfl 3 rfl (by decide +kernel) ?_
                                                  refine s_iconst (pc := 879) (n := 1) (v := (1 : Int32)) (by decide) (by decide +kernel) ?_
                                                  refine s_iadd (pc := 880) (by decide +kernel) ?_
                                                  have c158 := kp e156 c1 (by decide)
                                                  refine S_gd (fun c159 => ?_)
                                                  refine s_iald (pc := 881) c158 c159 (by decide +kernel) ?_
                                                  refine s_aload_n (pc := 882) (k0 := 0) (i := 0) rfl 0 rfl (by decide +kernel) ?_
                                                  refine s_iload_n (pc := 883) (k0 := 3) (i := 3) rfl 3 rfl (by decide +kernel) ?_
                                                  refine s_iconst (pc := 884) (n := 2) (v := (2 : Int32)) (by decide) (by decide +kernel) ?_
                                                  refine s_iadd (pc := 885) (by decide +kernel) ?_
                                                  refine S_gd (fun c160 => ?_)
                                                  refine s_iald (pc := 886) c158 c160 (by decide +kernel) ?_
                                                  refine S_gd (fun c161 => ?_)
                                                  refine s_cVi (pc := 887) [.int (hI g155 a0 (a3 + (1 : Int32)).toNatClampNeg), .int (hI g155 a0 (a3 + (2 : Int32)).toNatClampNeg)] (tX7_bits a2 (hI g155 a0 (a3 + (1 : Int32)).toNatClampNeg) (hI g155 a0 (a3 + (2 : Int32)).toNatClampNeg) g155) c161 cw_L_111 rfl ⟨⟨Nat.le_of_ble_eq_true rfl, Nat.le_of_ble_eq_true rfl⟩, Nat.le_of_ble_eq_true rfl⟩ rfl (by decide +kernel) (fun w164 g162 e163 => ?_)
                                                  refine s_icmp_eq (pc := 890) (off := 403) 1293 (by decide +kernel) (by decide) (fun _ => ?_) (fun _ => ?_)
                                                  · exact pL_law_b1293 hr18 a0 a1 a2 a3 g162
                                                  · refine s_iconst (pc := 893) (n := 0) (v := (0 : Int32)) (by decide) (by decide +kernel) ?_
                                                    exact s_zret (pc := 894) (by decide) rfl (by decide +kernel)
                                                · refine S_ite (fun e => ?_) (fun ne23 => ?_)
                                                  · refine s_tableIn (pc := 33) (dflt := 1260) (lo := 0) (hi := 33) (offs := #[151, 214, 237, 260, 273, 316, 339, 372, 405, 438, 461, 484, 527, 570, 603, 626, 649, 662, 685, 708, 742, 785, 829, 862, 906, 939, 972, 1016, 1050, 1094, 1137, 1191, 1224, 1247]) (len := 151) (off := 862) 895 (by decide +kernel) (by rw [e]; decide) (by rw [e]; decide) (by rw [e]; rfl) (by decide) ?_
                                                    refine s_aload_n (pc := 895) (k0 := 1) (i := 1) rfl 1 rfl (by decide +kernel) ?_
                                                    refine s_aload_n (pc := 896) (k0 := 0) (i := 0) rfl 0 rfl (by decide +kernel) ?_
                                                    refine s_iload_n (pc := 897) (k0 := 3) (i := 3) rfl 3 rfl (by decide +kernel) ?_
                                                    refine s_iconst (pc := 898) (n := 1) (v := (1 : Int32)) (by decide) (by decide +kernel) ?_
                                                    refine s_iadd (pc := 899) (by decide +kernel) ?_
                                                    refine S_gd (fun c137 => ?_)
                                                    refine s_iald (pc := 900) c1 c137 (by decide +kernel) ?_
                                                    refine s_aload_n (pc := 901) (k0 := 0) (i := 0) rfl 0 rfl (by decide +kernel) ?_
                                                    refine s_iload_n (pc := 902) (k0 := 3) (i := 3) rfl 3 rfl (by decide +kernel) ?_
                                                    refine s_iconst (pc := 903) (n := 2) (v := (2 : Int32)) (by decide) (by decide +kernel) ?_
                                                    refine s_iadd (pc := 904) (by decide +kernel) ?_
                                                    refine S_gd (fun c138 => ?_)
                                                    refine s_iald (pc := 905) c1 c138 (by decide +kernel) ?_
                                                    refine s_aload_n (pc := 906) (k0 := 0) (i := 0) rfl 0 rfl (by decide +kernel) ?_
                                                    refine s_iload_n (pc := 907) (k0 := 3) (i := 3) rfl 3 rfl (by decide +kernel) ?_
                                                    refine s_iconst (pc := 908) (n := 3) (v := (3 : Int32)) (by decide) (by decide +kernel) ?_
                                                    refine s_iadd (pc := 909) (by decide +kernel) ?_
                                                    refine S_gd (fun c139 => ?_)
                                                    refine s_iald (pc := 910) c1 c139 (by decide +kernel) ?_
                                                    refine S_gd (fun c140 => ?_)
                                                    refine s_cVj (pc := 911) [.int (hI h a0 (a3 + (1 : Int32)).toNatClampNeg), .int (hI h a0 (a3 + (2 : Int32)).toNatClampNeg), .int (hI h a0 (a3 + (3 : Int32)).toNatClampNeg)] (tX6_limit a1 (hI h a0 (a3 + (1 : Int32)).toNatClampNeg) (hI h a0 (a3 + (2 : Int32)).toNatClampNeg) (hI h a0 (a3 + (3 : Int32)).toNatClampNeg) h) c140 cw_L_112 rfl ⟨⟨Nat.le_of_ble_eq_true rfl, Nat.le_of_ble_eq_true rfl⟩, Nat.le_of_ble_eq_true rfl⟩ rfl (by decide +kernel) (fun w143 g141 e142 => ?_)
                                                    refine s_aload_n (pc := 914) (k0 := 2) (i := 2) rfl 2 rfl (by decide +kernel) ?_
                                                    refine s_aload_n (pc := 915) (k0 := 0) (i := 0) rfl 0 rfl (by decide +kernel) ?_
                                                    refine s_iload_n (pc := 916) (k0 := 3) (i := 3) rfl 3 rfl (by decide +kernel) ?_
                                                    refine s_iconst (pc := 917) (n := 1) (v := (1 : Int32)) (by decide) (by decide +kernel) ?_
                                                    refine s_iadd (pc := 918) (by decide +kernel) ?_
                                                    have c144 := kp e142 c1 (by decide)
                                                    refine S_gd (fun c145 => ?_)
                                                    refine s_iald (pc := 919) c144 c145 (by decide +kernel) ?_
                                                    refine s_aload_n (pc := 920) (k0 := 0) (i := 0) rfl 0 rfl (by decide +kernel) ?_
                                                    refine s_iload_n (pc := 921) (k0 := 3) (i := 3) rfl 3 rfl (by decide +kernel) ?_
                                                    refine s_iconst (pc := 922) (n := 2) (v := (2 : Int32)) (by decide) (by decide +kernel) ?_
                                                    refine s_iadd (pc := 923) (by decide +kernel) ?_
                                                    refine S_gd (fun c146 => ?_)
                                                    refine s_iald (pc := 924) c144 c146 (by decide +kernel) ?_
                                                    refine s_aload_n (pc := 925) (k0 := 0) (i := 0) rfl 0 rfl (by decide +kernel) ?_
                                                    refine s_iload_n (pc := 926) (k0 := 3) (i := 3) rfl 3 rfl (by decide +kernel) ?_
                                                    refine s_iconst (pc := 927) (n := 3) (v := (3 : Int32)) (by decide) (by decide +kernel) ?_
                                                    refine s_iadd (pc := 928) (by decide +kernel) ?_
                                                    refine S_gd (fun c147 => ?_)
                                                    refine s_iald (pc := 929) c144 c147 (by decide +kernel) ?_
                                                    refine S_gd (fun c148 => ?_)
                                                    refine s_cVj (pc := 930) [.int (hI g141 a0 (a3 + (1 : Int32)).toNatClampNeg), .int (hI g141 a0 (a3 + (2 : Int32)).toNatClampNeg), .int (hI g141 a0 (a3 + (3 : Int32)).toNatClampNeg)] (tX7_limit a2 (hI g141 a0 (a3 + (1 : Int32)).toNatClampNeg) (hI g141 a0 (a3 + (2 : Int32)).toNatClampNeg) (hI g141 a0 (a3 + (3 : Int32)).toNatClampNeg) g141) c148 cw_L_115 rfl ⟨⟨Nat.le_of_ble_eq_true rfl, Nat.le_of_ble_eq_true rfl⟩, Nat.le_of_ble_eq_true rfl⟩ rfl (by decide +kernel) (fun w151 g149 e150 => ?_)
                                                    refine s_lcmp (pc := 933) (by decide +kernel) ?_
                                                    refine s_if_eq (pc := 934) (off := 359) 1293 (by decide +kernel) (by decide) (fun _ => ?_) (fun _ => ?_)
                                                    · exact pL_law_b1293 hr18 a0 a1 a2 a3 g149
                                                    · refine s_iconst (pc := 937) (n := 0) (v := (0 : Int32)) (by decide) (by decide +kernel) ?_
                                                      exact s_zret (pc := 938) (by decide) rfl (by decide +kernel)
                                                  · refine S_ite (fun e => ?_) (fun ne24 => ?_)
                                                    · refine s_tableIn (pc := 33) (dflt := 1260) (lo := 0) (hi := 33) (offs := #[151, 214, 237, 260, 273, 316, 339, 372, 405, 438, 461, 484, 527, 570, 603, 626, 649, 662, 685, 708, 742, 785, 829, 862, 906, 939, 972, 1016, 1050, 1094, 1137, 1191, 1224, 1247]) (len := 151) (off := 906) 939 (by decide +kernel) (by rw [e]; decide) (by rw [e]; decide) (by rw [e]; rfl) (by decide) ?_
                                                      refine s_aload_n (pc := 939) (k0 := 1) (i := 1) rfl 1 rfl (by decide +kernel) ?_
                                                      refine s_aload_n (pc := 940) (k0 := 0) (i := 0) rfl 0 rfl (by decide +kernel) ?_
                                                      refine s_iload_n (pc := 941) (k0 := 3) (i := 3) rfl 3 rfl (by decide +kernel) ?_
                                                      refine s_iconst (pc := 942) (n := 1) (v := (1 : Int32)) (by decide) (by decide +kernel) ?_
                                                      refine s_iadd (pc := 943) (by decide +kernel) ?_
                                                      refine S_gd (fun c124 => ?_)
                                                      refine s_iald (pc := 944) c1 c124 (by decide +kernel) ?_
                                                      refine s_aload_n (pc := 945) (k0 := 0) (i := 0) rfl 0 rfl (by decide +kernel) ?_
                                                      refine s_iload_n (pc := 946) (k0 := 3) (i := 3) rfl 3 rfl (by decide +kernel) ?_
                                                      refine s_iconst (pc := 947) (n := 2) (v := (2 : Int32)) (by decide) (by decide +kernel) ?_
                                                      refine s_iadd (pc := 948) (by decide +kernel) ?_
                                                      refine S_gd (fun c125 => ?_)
                                                      refine s_iald (pc := 949) c1 c125 (by decide +kernel) ?_
                                                      refine S_gd (fun c126 => ?_)
                                                      refine s_cVi (pc := 950) [.int (hI h a0 (a3 + (1 : Int32)).toNatClampNeg), .int (hI h a0 (a3 + (2 : Int32)).toNatClampNeg)] (tX6_of a1 (hI h a0 (a3 + (1 : Int32)).toNatClampNeg) (hI h a0 (a3 + (2 : Int32)).toNatClampNeg) h) c126 cw_L_116 rfl ⟨⟨Nat.le_of_ble_eq_true rfl, Nat.le_of_ble_eq_true rfl⟩, Nat.le_of_ble_eq_true rfl⟩ rfl (by decide +kernel) (fun w129 g127 e128 => ?_)
                                                      refine s_aload_n (pc := 953) (k0 := 2) (i := 2) rfl 2 rfl (by decide +kernel) ?_
                                                      refine s_aload_n (pc := 954) (k0 := 0) (i := 0) rfl 0 rfl (by decide +kernel) ?_
                                                      refine s_iload_n (pc := 955) (k0 := 3) (i := 3) rfl 3 rfl (by decide +kernel) ?_
                                                      refine s_iconst (pc := 956) (n := 1) (v := (1 : Int32)) (by decide) (by decide +kernel) ?_
                                                      refine s_iadd (pc := 957) (by decide +kernel) ?_
                                                      have c130 := kp e128 c1 (by decide)
                                                      refine S_gd (fun c131 => ?_)
                                                      refine s_iald (pc := 958) c130 c131 (by decide +kernel) ?_
                                                      refine s_aload_n (pc := 959) (k0 := 0) (i := 0) rfl 0 rfl (by decide +kernel) ?_
                                                      refine s_iload_n (pc := 960) (k0 := 3) (i := 3) rfl 3 rfl (by decide +kernel) ?_
                                                      refine s_iconst (pc := 961) (n := 2) (v := (2 : Int32)) (by decide) (by decide +kernel) ?_
                                                      refine s_iadd (pc := 962) (by decide +kernel) ?_
                                                      refine S_gd (fun c132 => ?_)
                                                      refine s_iald (pc := 963) c130 c132 (by decide +kernel) ?_
                                                      refine S_gd (fun c133 => ?_)
                                                      refine s_cVi (pc := 964) [.int (hI g127 a0 (a3 + (1 : Int32)).toNatClampNeg), .int (hI g127 a0 (a3 + (2 : Int32)).toNatClampNeg)] (tX7_of a2 (hI g127 a0 (a3 + (1 : Int32)).toNatClampNeg) (hI g127 a0 (a3 + (2 : Int32)).toNatClampNeg) g127) c133 cw_L_119 rfl ⟨⟨Nat.le_of_ble_eq_true rfl, Nat.le_of_ble_eq_true rfl⟩, Nat.le_of_ble_eq_true rfl⟩ rfl (by decide +kernel) (fun w136 g134 e135 => ?_)
                                                      refine s_icmp_eq (pc := 967) (off := 326) 1293 (by decide +kernel) (by decide) (fun _ => ?_) (fun _ => ?_)
                                                      · exact pL_law_b1293 hr18 a0 a1 a2 a3 g134
                                                      · refine s_iconst (pc := 970) (n := 0) (v := (0 : Int32)) (by decide) (by decide +kernel) ?_
                                                        exact s_zret (pc := 971) (by decide) rfl (by decide +kernel)
                                                    · refine S_ite (fun e => ?_) (fun ne25 => ?_)
                                                      · refine s_tableIn (pc := 33) (dflt := 1260) (lo := 0) (hi := 33) (offs := #[151, 214, 237, 260, 273, 316, 339, 372, 405, 438, 461, 484, 527, 570, 603, 626, 649, 662, 685, 708, 742, 785, 829, 862, 906, 939, 972, 1016, 1050, 1094, 1137, 1191, 1224, 1247]) (len := 151) (off := 939) 972 (by decide +kernel) (by rw [e]; decide) (by rw [e]; decide) (by rw [e]; rfl) (by decide) ?_
                                                        refine s_aload_n (pc := 972) (k0 := 1) (i := 1) rfl 1 rfl (by decide +kernel) ?_
                                                        refine s_aload_n (pc := 973) (k0 := 0) (i := 0) rfl 0 rfl (by decide +kernel) ?_
                                                        refine s_iload_n (pc := 974) (k0 := 3) (i := 3) rfl 3 rfl (by decide +kernel) ?_
                                                        refine s_iconst (pc := 975) (n := 1) (v := (1 : Int32)) (by decide) (by decide +kernel) ?_
                                                        refine s_iadd (pc := 976) (by decide +kernel) ?_
                                                        refine S_gd (fun c111 => ?_)
                                                        refine s_iald (pc := 977) c1 c111 (by decide +kernel) ?_
                                                        refine s_aload_n (pc := 978) (k0 := 0) (i := 0) rfl 0 rfl (by decide +kernel) ?_
                                                        refine s_iload_n (pc := 979) (k0 := 3) (i := 3) rfl 3 rfl (by decide +kernel) ?_
                                                        refine s_iconst (pc := 980) (n := 2) (v := (2 : Int32)) (by decide) (by decide +kernel) ?_
                                                        refine s_iadd (pc := 981) (by decide +kernel) ?_
                                                        refine S_gd (fun c112 => ?_)
                                                        refine s_iald (pc := 982) c1 c112 (by decide +kernel) ?_
                                                        refine S_gd (fun c113 => ?_)
                                                        refine s_cVi (pc := 983) [.int (hI h a0 (a3 + (1 : Int32)).toNatClampNeg), .int (hI h a0 (a3 + (2 : Int32)).toNatClampNeg)] (tX6_least a1 (hI h a0 (a3 + (1 : Int32)).toNatClampNeg) (hI h a0 (a3 + (2 : Int32)).toNatClampNeg) h) c113 cw_L_120 rfl ⟨⟨Nat.le_of_ble_eq_true rfl, Nat.le_of_ble_eq_true rfl⟩, Nat.le_of_ble_eq_true rfl⟩ rfl (by decide +kernel) (fun w116 g114 e115 => ?_)
                                                        refine s_aload_n (pc := 986) (k0 := 2) (i := 2) rfl 2 rfl (by decide +kernel) ?_
                                                        refine s_aload_n (pc := 987) (k0 := 0) (i := 0) rfl 0 rfl (by decide +kernel) ?_
                                                        refine s_iload_n (pc := 988) (k0 := 3) (i := 3) rfl 3 rfl (by decide +kernel) ?_
                                                        refine s_iconst (pc := 989) (n := 1) (v := (1 : Int32)) (by decide) (by decide +kernel) ?_
                                                        refine s_iadd (pc := 990) (by decide +kernel) ?_
                                                        have c117 := kp e115 c1 (by decide)
                                                        refine S_gd (fun c118 => ?_)
                                                        refine s_iald (pc := 991) c117 c118 (by decide +kernel) ?_
                                                        refine s_aload_n (pc := 992) (k0 := 0) (i := 0) rfl 0 rfl (by decide +kernel) ?_
                                                        refine s_iload_n (pc := 993) (k0 := 3) (i := 3) rfl 3 rfl (by decide +kernel) ?_
                                                        refine s_iconst (pc := 994) (n := 2) (v := (2 : Int32)) (by decide) (by decide +kernel) ?_
                                                        refine s_iadd (pc := 995) (by decide +kernel) ?_
                                                        refine S_gd (fun c119 => ?_)
                                                        refine s_iald (pc := 996) c117 c119 (by decide +kernel) ?_
                                                        refine S_gd (fun c120 => ?_)
                                                        refine s_cVi (pc := 997) [.int (hI g114 a0 (a3 + (1 : Int32)).toNatClampNeg), .int (hI g114 a0 (a3 + (2 : Int32)).toNatClampNeg)] (tX7_least a2 (hI g114 a0 (a3 + (1 : Int32)).toNatClampNeg) (hI g114 a0 (a3 + (2 : Int32)).toNatClampNeg) g114) c120 cw_L_123 rfl ⟨⟨Nat.le_of_ble_eq_true rfl, Nat.le_of_ble_eq_true rfl⟩, Nat.le_of_ble_eq_true rfl⟩ rfl (by decide +kernel) (fun w123 g121 e122 => ?_)
                                                        refine s_icmp_eq (pc := 1000) (off := 293) 1293 (by decide +kernel) (by decide) (fun _ => ?_) (fun _ => ?_)
                                                        · exact pL_law_b1293 hr18 a0 a1 a2 a3 g121
                                                        · refine s_iconst (pc := 1003) (n := 0) (v := (0 : Int32)) (by decide) (by decide +kernel) ?_
                                                          exact s_zret (pc := 1004) (by decide) rfl (by decide +kernel)
                                                      · refine S_ite (fun e => ?_) (fun ne26 => ?_)
                                                        · refine s_tableIn (pc := 33) (dflt := 1260) (lo := 0) (hi := 33) (offs := #[151, 214, 237, 260, 273, 316, 339, 372, 405, 438, 461, 484, 527, 570, 603, 626, 649, 662, 685, 708, 742, 785, 829, 862, 906, 939, 972, 1016, 1050, 1094, 1137, 1191, 1224, 1247]) (len := 151) (off := 972) 1005 (by decide +kernel) (by rw [e]; decide) (by rw [e]; decide) (by rw [e]; rfl) (by decide) ?_
                                                          refine s_aload_n (pc := 1005) (k0 := 1) (i := 1) rfl 1 rfl (by decide +kernel) ?_
                                                          refine s_aload_n (pc := 1006) (k0 := 0) (i := 0) rfl 0 rfl (by decide +kernel) ?_
                                                          refine s_iload_n (pc := 1007) (k0 := 3) (i := 3) rfl 3 rfl (by decide +kernel) ?_
                                                          refine s_iconst (pc := 1008) (n := 1) (v := (1 : Int32)) (by decide) (by decide +kernel) ?_
                                                          refine s_iadd (pc := 1009) (by decide +kernel) ?_
                                                          refine S_gd (fun c96 => ?_)
                                                          refine s_iald (pc := 1010) c1 c96 (by decide +kernel) ?_
                                                          refine s_aload_n (pc := 1011) (k0 := 0) (i := 0) rfl 0 rfl (by decide +kernel) ?_
                                                          refine s_iload_n (pc := 1012) (k0 := 3) (i := 3) rfl 3 rfl (by decide +kernel) ?_
                                                          refine s_iconst (pc := 1013) (n := 2) (v := (2 : Int32)) (by decide) (by decide +kernel) ?_
                                                          refine s_iadd (pc := 1014) (by decide +kernel) ?_
                                                          refine S_gd (fun c97 => ?_)
                                                          refine s_iald (pc := 1015) c1 c97 (by decide +kernel) ?_
                                                          refine s_aload_n (pc := 1016) (k0 := 0) (i := 0) rfl 0 rfl (by decide +kernel) ?_
                                                          refine s_iload_n (pc := 1017) (k0 := 3) (i := 3) rfl 3 rfl (by decide +kernel) ?_
                                                          refine s_iconst (pc := 1018) (n := 3) (v := (3 : Int32)) (by decide) (by decide +kernel) ?_
                                                          refine s_iadd (pc := 1019) (by decide +kernel) ?_
                                                          refine S_gd (fun c98 => ?_)
                                                          refine s_iald (pc := 1020) c1 c98 (by decide +kernel) ?_
                                                          refine S_gd (fun c99 => ?_)
                                                          refine s_cVj (pc := 1021) [.int (hI h a0 (a3 + (1 : Int32)).toNatClampNeg), .int (hI h a0 (a3 + (2 : Int32)).toNatClampNeg), .int (hI h a0 (a3 + (3 : Int32)).toNatClampNeg)] (tX6_slope a1 (hI h a0 (a3 + (1 : Int32)).toNatClampNeg) (hI h a0 (a3 + (2 : Int32)).toNatClampNeg) (hI h a0 (a3 + (3 : Int32)).toNatClampNeg) h) c99 cw_L_124 rfl ⟨⟨Nat.le_of_ble_eq_true rfl, Nat.le_of_ble_eq_true rfl⟩, Nat.le_of_ble_eq_true rfl⟩ rfl (by decide +kernel) (fun w102 g100 e101 => ?_)
                                                          refine s_aload_n (pc := 1024) (k0 := 2) (i := 2) rfl 2 rfl (by decide +kernel) ?_
                                                          refine s_aload_n (pc := 1025) (k0 := 0) (i := 0) rfl 0 rfl (by decide +kernel) ?_
                                                          refine s_iload_n (pc := 1026) (k0 := 3) (i := 3) rfl 3 rfl (by decide +kernel) ?_
                                                          refine s_iconst (pc := 1027) (n := 1) (v := (1 : Int32)) (by decide) (by decide +kernel) ?_
                                                          refine s_iadd (pc := 1028) (by decide +kernel) ?_
                                                          have c103 := kp e101 c1 (by decide)
                                                          refine S_gd (fun c104 => ?_)
                                                          refine s_iald (pc := 1029) c103 c104 (by decide +kernel) ?_
                                                          refine s_aload_n (pc := 1030) (k0 := 0) (i := 0) rfl 0 rfl (by decide +kernel) ?_
                                                          refine s_iload_n (pc := 1031) (k0 := 3) (i := 3) rfl 3 rfl (by decide +kernel) ?_
                                                          refine s_iconst (pc := 1032) (n := 2) (v := (2 : Int32)) (by decide) (by decide +kernel) ?_
                                                          refine s_iadd (pc := 1033) (by decide +kernel) ?_
                                                          refine S_gd (fun c105 => ?_)
                                                          refine s_iald (pc := 1034) c103 c105 (by decide +kernel) ?_
                                                          refine s_aload_n (pc := 1035) (k0 := 0) (i := 0) rfl 0 rfl (by decide +kernel) ?_
                                                          refine s_iload_n (pc := 1036) (k0 := 3) (i := 3) rfl 3 rfl (by decide +kernel) ?_
                                                          refine s_iconst (pc := 1037) (n := 3) (v := (3 : Int32)) (by decide) (by decide +kernel) ?_
                                                          refine s_iadd (pc := 1038) (by decide +kernel) ?_
                                                          refine S_gd (fun c106 => ?_)
                                                          refine s_iald (pc := 1039) c103 c106 (by decide +kernel) ?_
                                                          refine S_gd (fun c107 => ?_)
                                                          refine s_cVj (pc := 1040) [.int (hI g100 a0 (a3 + (1 : Int32)).toNatClampNeg), .int (hI g100 a0 (a3 + (2 : Int32)).toNatClampNeg), .int (hI g100 a0 (a3 + (3 : Int32)).toNatClampNeg)] (tX7_slope a2 (hI g100 a0 (a3 + (1 : Int32)).toNatClampNeg) (hI g100 a0 (a3 + (2 : Int32)).toNatClampNeg) (hI g100 a0 (a3 + (3 : Int32)).toNatClampNeg) g100) c107 cw_L_127 rfl ⟨⟨Nat.le_of_ble_eq_true rfl, Nat.le_of_ble_eq_true rfl⟩, Nat.le_of_ble_eq_true rfl⟩ rfl (by decide +kernel) (fun w110 g108 e109 => ?_)
                                                          refine s_lcmp (pc := 1043) (by decide +kernel) ?_
                                                          refine s_if_eq (pc := 1044) (off := 249) 1293 (by decide +kernel) (by decide) (fun _ => ?_) (fun _ => ?_)
                                                          · exact pL_law_b1293 hr18 a0 a1 a2 a3 g108
                                                          · refine s_iconst (pc := 1047) (n := 0) (v := (0 : Int32)) (by decide) (by decide +kernel) ?_
                                                            exact s_zret (pc := 1048) (by decide) rfl (by decide +kernel)
                                                        · refine S_ite (fun e => ?_) (fun ne27 => ?_)
                                                          · refine s_tableIn (pc := 33) (dflt := 1260) (lo := 0) (hi := 33) (offs := #[151, 214, 237, 260, 273, 316, 339, 372, 405, 438, 461, 484, 527, 570, 603, 626, 649, 662, 685, 708, 742, 785, 829, 862, 906, 939, 972, 1016, 1050, 1094, 1137, 1191, 1224, 1247]) (len := 151) (off := 1016) 1049 (by decide +kernel) (by rw [e]; decide) (by rw [e]; decide) (by rw [e]; rfl) (by decide) ?_
                                                            refine s_aload_n (pc := 1049) (k0 := 1) (i := 1) rfl 1 rfl (by decide +kernel) ?_
                                                            refine s_aload_n (pc := 1050) (k0 := 0) (i := 0) rfl 0 rfl (by decide +kernel) ?_
                                                            refine s_iload_n (pc := 1051) (k0 := 3) (i := 3) rfl 3 rfl (by decide +kernel) ?_
                                                            refine s_iconst (pc := 1052) (n := 1) (v := (1 : Int32)) (by decide) (by decide +kernel) ?_
                                                            refine s_iadd (pc := 1053) (by decide +kernel) ?_
                                                            refine S_gd (fun c83 => ?_)
                                                            refine s_iald (pc := 1054) c1 c83 (by decide +kernel) ?_
                                                            refine s_aload_n (pc := 1055) (k0 := 0) (i := 0) rfl 0 rfl (by decide +kernel) ?_
                                                            refine s_iload_n (pc := 1056) (k0 := 3) (i := 3) rfl 3 rfl (by decide +kernel) ?_
                                                            refine s_iconst (pc := 1057) (n := 2) (v := (2 : Int32)) (by decide) (by decide +kernel) ?_
                                                            refine s_iadd (pc := 1058) (by decide +kernel) ?_
                                                            refine S_gd (fun c84 => ?_)
                                                            refine s_iald (pc := 1059) c1 c84 (by decide +kernel) ?_
                                                            refine S_gd (fun c85 => ?_)
                                                            refine s_cVj (pc := 1060) [.int (hI h a0 (a3 + (1 : Int32)).toNatClampNeg), .int (hI h a0 (a3 + (2 : Int32)).toNatClampNeg)] (tX6_area a1 (hI h a0 (a3 + (1 : Int32)).toNatClampNeg) (hI h a0 (a3 + (2 : Int32)).toNatClampNeg) h) c85 cw_L_128 rfl ⟨⟨Nat.le_of_ble_eq_true rfl, Nat.le_of_ble_eq_true rfl⟩, Nat.le_of_ble_eq_true rfl⟩ rfl (by decide +kernel) (fun w88 g86 e87 => ?_)
                                                            refine s_aload_n (pc := 1063) (k0 := 2) (i := 2) rfl 2 rfl (by decide +kernel) ?_
                                                            refine s_aload_n (pc := 1064) (k0 := 0) (i := 0) rfl 0 rfl (by decide +kernel) ?_
                                                            refine s_iload_n (pc := 1065) (k0 := 3) (i := 3) rfl 3 rfl (by decide +kernel) ?_
                                                            refine s_iconst (pc := 1066) (n := 1) (v := (1 : Int32)) (by decide) (by decide +kernel) ?_
                                                            refine s_iadd (pc := 1067) (by decide +kernel) ?_
                                                            have c89 := kp e87 c1 (by decide)
                                                            refine S_gd (fun c90 => ?_)
                                                            refine s_iald (pc := 1068) c89 c90 (by decide +kernel) ?_
                                                            refine s_aload_n (pc := 1069) (k0 := 0) (i := 0) rfl 0 rfl (by decide +kernel) ?_
                                                            refine s_iload_n (pc := 1070) (k0 := 3) (i := 3) rfl 3 rfl (by decide +kernel) ?_
                                                            refine s_iconst (pc := 1071) (n := 2) (v := (2 : Int32)) (by decide) (by decide +kernel) ?_
                                                            refine s_iadd (pc := 1072) (by decide +kernel) ?_
                                                            refine S_gd (fun c91 => ?_)
                                                            refine s_iald (pc := 1073) c89 c91 (by decide +kernel) ?_
                                                            refine S_gd (fun c92 => ?_)
                                                            refine s_cVj (pc := 1074) [.int (hI g86 a0 (a3 + (1 : Int32)).toNatClampNeg), .int (hI g86 a0 (a3 + (2 : Int32)).toNatClampNeg)] (tX7_area a2 (hI g86 a0 (a3 + (1 : Int32)).toNatClampNeg) (hI g86 a0 (a3 + (2 : Int32)).toNatClampNeg) g86) c92 cw_L_131 rfl ⟨⟨Nat.le_of_ble_eq_true rfl, Nat.le_of_ble_eq_true rfl⟩, Nat.le_of_ble_eq_true rfl⟩ rfl (by decide +kernel) (fun w95 g93 e94 => ?_)
                                                            refine s_lcmp (pc := 1077) (by decide +kernel) ?_
                                                            refine s_if_eq (pc := 1078) (off := 215) 1293 (by decide +kernel) (by decide) (fun _ => ?_) (fun _ => ?_)
                                                            · exact pL_law_b1293 hr18 a0 a1 a2 a3 g93
                                                            · refine s_iconst (pc := 1081) (n := 0) (v := (0 : Int32)) (by decide) (by decide +kernel) ?_
                                                              exact s_zret (pc := 1082) (by decide) rfl (by decide +kernel)
                                                          · refine S_ite (fun e => ?_) (fun ne28 => ?_)
                                                            · refine s_tableIn (pc := 33) (dflt := 1260) (lo := 0) (hi := 33) (offs := #[151, 214, 237, 260, 273, 316, 339, 372, 405, 438, 461, 484, 527, 570, 603, 626, 649, 662, 685, 708, 742, 785, 829, 862, 906, 939, 972, 1016, 1050, 1094, 1137, 1191, 1224, 1247]) (len := 151) (off := 1050) 1083 (by decide +kernel) (by rw [e]; decide) (by rw [e]; decide) (by rw [e]; rfl) (by decide) ?_
                                                              refine s_aload_n (pc := 1083) (k0 := 1) (i := 1) rfl 1 rfl (by decide +kernel) ?_
                                                              refine s_aload_n (pc := 1084) (k0 := 0) (i := 0) rfl 0 rfl (by decide +kernel) ?_
                                                              refine s_iload_n (pc := 1085) (k0 := 3) (i := 3) rfl 3 rfl (by decide +kernel) ?_
                                                              refine s_iconst (pc := 1086) (n := 1) (v := (1 : Int32)) (by decide) (by decide +kernel) ?_
                                                              refine s_iadd (pc := 1087) (by decide +kernel) ?_
                                                              refine S_gd (fun c68 => ?_)
                                                              refine s_iald (pc := 1088) c1 c68 (by decide +kernel) ?_
                                                              refine s_aload_n (pc := 1089) (k0 := 0) (i := 0) rfl 0 rfl (by decide +kernel) ?_
                                                              refine s_iload_n (pc := 1090) (k0 := 3) (i := 3) rfl 3 rfl (by decide +kernel) ?_
                                                              refine s_iconst (pc := 1091) (n := 2) (v := (2 : Int32)) (by decide) (by decide +kernel) ?_
                                                              refine s_iadd (pc := 1092) (by decide +kernel) ?_
                                                              refine S_gd (fun c69 => ?_)
                                                              refine s_iald (pc := 1093) c1 c69 (by decide +kernel) ?_
                                                              refine s_aload_n (pc := 1094) (k0 := 0) (i := 0) rfl 0 rfl (by decide +kernel) ?_
                                                              refine s_iload_n (pc := 1095) (k0 := 3) (i := 3) rfl 3 rfl (by decide +kernel) ?_
                                                              refine s_iconst (pc := 1096) (n := 3) (v := (3 : Int32)) (by decide) (by decide +kernel) ?_
                                                              refine s_iadd (pc := 1097) (by decide +kernel) ?_
                                                              refine S_gd (fun c70 => ?_)
                                                              refine s_iald (pc := 1098) c1 c70 (by decide +kernel) ?_
                                                              refine S_gd (fun c71 => ?_)
                                                              refine s_cVj (pc := 1099) [.int (hI h a0 (a3 + (1 : Int32)).toNatClampNeg), .int (hI h a0 (a3 + (2 : Int32)).toNatClampNeg), .int (hI h a0 (a3 + (3 : Int32)).toNatClampNeg)] (tX6_where a1 (hI h a0 (a3 + (1 : Int32)).toNatClampNeg) (hI h a0 (a3 + (2 : Int32)).toNatClampNeg) (hI h a0 (a3 + (3 : Int32)).toNatClampNeg) h) c71 cw_L_132 rfl ⟨⟨Nat.le_of_ble_eq_true rfl, Nat.le_of_ble_eq_true rfl⟩, Nat.le_of_ble_eq_true rfl⟩ rfl (by decide +kernel) (fun w74 g72 e73 => ?_)
                                                              refine s_aload_n (pc := 1102) (k0 := 2) (i := 2) rfl 2 rfl (by decide +kernel) ?_
                                                              refine s_aload_n (pc := 1103) (k0 := 0) (i := 0) rfl 0 rfl (by decide +kernel) ?_
                                                              refine s_iload_n (pc := 1104) (k0 := 3) (i := 3) rfl 3 rfl (by decide +kernel) ?_
                                                              refine s_iconst (pc := 1105) (n := 1) (v := (1 : Int32)) (by decide) (by decide +kernel) ?_
                                                              refine s_iadd (pc := 1106) (by decide +kernel) ?_
                                                              have c75 := kp e73 c1 (by decide)
                                                              refine S_gd (fun c76 => ?_)
                                                              refine s_iald (pc := 1107) c75 c76 (by decide +kernel) ?_
                                                              refine s_aload_n (pc := 1108) (k0 := 0) (i := 0) rfl 0 rfl (by decide +kernel) ?_
                                                              refine s_iload_n (pc := 1109) (k0 := 3) (i := 3) rfl 3 rfl (by decide +kernel) ?_
                                                              refine s_iconst (pc := 1110) (n := 2) (v := (2 : Int32)) (by decide) (by decide +kernel) ?_
                                                              refine s_iadd (pc := 1111) (by decide +kernel) ?_
                                                              refine S_gd (fun c77 => ?_)
                                                              refine s_iald (pc := 1112) c75 c77 (by decide +kernel) ?_
                                                              refine s_aload_n (pc := 1113) (k0 := 0) (i := 0) rfl 0 rfl (by decide +kernel) ?_
                                                              refine s_iload_n (pc := 1114) (k0 := 3) (i := 3) rfl 3 rfl (by decide +kernel) ?_
                                                              refine s_iconst (pc := 1115) (n := 3) (v := (3 : Int32)) (by decide) (by decide +kernel) ?_
                                                              refine s_iadd (pc := 1116) (by decide +kernel) ?_
                                                              refine S_gd (fun c78 => ?_)
                                                              refine s_iald (pc := 1117) c75 c78 (by decide +kernel) ?_
                                                              refine S_gd (fun c79 => ?_)
                                                              refine s_cVj (pc := 1118) [.int (hI g72 a0 (a3 + (1 : Int32)).toNatClampNeg), .int (hI g72 a0 (a3 + (2 : Int32)).toNatClampNeg), .int (hI g72 a0 (a3 + (3 : Int32)).toNatClampNeg)] (tX7_where a2 (hI g72 a0 (a3 + (1 : Int32)).toNatClampNeg) (hI g72 a0 (a3 + (2 : Int32)).toNatClampNeg) (hI g72 a0 (a3 + (3 : Int32)).toNatClampNeg) g72) c79 cw_L_135 rfl ⟨⟨Nat.le_of_ble_eq_true rfl, Nat.le_of_ble_eq_true rfl⟩, Nat.le_of_ble_eq_true rfl⟩ rfl (by decide +kernel) (fun w82 g80 e81 => ?_)
                                                              refine s_lcmp (pc := 1121) (by decide +kernel) ?_
                                                              refine s_if_eq (pc := 1122) (off := 171) 1293 (by decide +kernel) (by decide) (fun _ => ?_) (fun _ => ?_)
                                                              · exact pL_law_b1293 hr18 a0 a1 a2 a3 g80
                                                              · refine s_iconst (pc := 1125) (n := 0) (v := (0 : Int32)) (by decide) (by decide +kernel) ?_
                                                                exact s_zret (pc := 1126) (by decide) rfl (by decide +kernel)
                                                            · refine S_ite (fun e => ?_) (fun ne29 => ?_)
                                                              · refine s_tableIn (pc := 33) (dflt := 1260) (lo := 0) (hi := 33) (offs := #[151, 214, 237, 260, 273, 316, 339, 372, 405, 438, 461, 484, 527, 570, 603, 626, 649, 662, 685, 708, 742, 785, 829, 862, 906, 939, 972, 1016, 1050, 1094, 1137, 1191, 1224, 1247]) (len := 151) (off := 1094) 1127 (by decide +kernel) (by rw [e]; decide) (by rw [e]; decide) (by rw [e]; rfl) (by decide) ?_
                                                                refine s_aload_n (pc := 1127) (k0 := 1) (i := 1) rfl 1 rfl (by decide +kernel) ?_
                                                                refine s_aload_n (pc := 1128) (k0 := 0) (i := 0) rfl 0 rfl (by decide +kernel) ?_
                                                                refine s_iload_n (pc := 1129) (k0 := 3) (i := 3) rfl 3 rfl (by decide +kernel) ?_
                                                                refine s_iconst (pc := 1130) (n := 1) (v := (1 : Int32)) (by decide) (by decide +kernel) ?_
                                                                refine s_iadd (pc := 1131) (by decide +kernel) ?_
                                                                refine S_gd (fun c53 => ?_)
                                                                refine s_iald (pc := 1132) c1 c53 (by decide +kernel) ?_
                                                                refine s_aload_n (pc := 1133) (k0 := 0) (i := 0) rfl 0 rfl (by decide +kernel) ?_
                                                                refine s_iload_n (pc := 1134) (k0 := 3) (i := 3) rfl 3 rfl (by decide +kernel) ?_
                                                                refine s_iconst (pc := 1135) (n := 2) (v := (2 : Int32)) (by decide) (by decide +kernel) ?_
                                                                refine s_iadd (pc := 1136) (by decide +kernel) ?_
                                                                refine S_gd (fun c54 => ?_)
                                                                refine s_iald (pc := 1137) c1 c54 (by decide +kernel) ?_
                                                                refine s_aload_n (pc := 1138) (k0 := 0) (i := 0) rfl 0 rfl (by decide +kernel) ?_
                                                                refine s_iload_n (pc := 1139) (k0 := 3) (i := 3) rfl 3 rfl (by decide +kernel) ?_
                                                                refine s_iconst (pc := 1140) (n := 3) (v := (3 : Int32)) (by decide) (by decide +kernel) ?_
                                                                refine s_iadd (pc := 1141) (by decide +kernel) ?_
                                                                refine S_gd (fun c55 => ?_)
                                                                refine s_iald (pc := 1142) c1 c55 (by decide +kernel) ?_
                                                                refine S_gd (fun c56 => ?_)
                                                                refine s_cVi (pc := 1143) [.int (hI h a0 (a3 + (1 : Int32)).toNatClampNeg), .int (hI h a0 (a3 + (2 : Int32)).toNatClampNeg), .int (hI h a0 (a3 + (3 : Int32)).toNatClampNeg)] (tX6_places a1 (hI h a0 (a3 + (1 : Int32)).toNatClampNeg) (hI h a0 (a3 + (2 : Int32)).toNatClampNeg) (hI h a0 (a3 + (3 : Int32)).toNatClampNeg) h) c56 cw_L_136 rfl ⟨⟨Nat.le_of_ble_eq_true rfl, Nat.le_of_ble_eq_true rfl⟩, Nat.le_of_ble_eq_true rfl⟩ rfl (by decide +kernel) (fun w59 g57 e58 => ?_)
                                                                refine s_aload_n (pc := 1146) (k0 := 2) (i := 2) rfl 2 rfl (by decide +kernel) ?_
                                                                refine s_aload_n (pc := 1147) (k0 := 0) (i := 0) rfl 0 rfl (by decide +kernel) ?_
                                                                refine s_iload_n (pc := 1148) (k0 := 3) (i := 3) rfl 3 rfl (by decide +kernel) ?_
                                                                refine s_iconst (pc := 1149) (n := 1) (v := (1 : Int32)) (by decide) (by decide +kernel) ?_
                                                                refine s_iadd (pc := 1150) (by decide +kernel) ?_
                                                                have c60 := kp e58 c1 (by decide)
                                                                refine S_gd (fun c61 => ?_)
                                                                refine s_iald (pc := 1151) c60 c61 (by decide +kernel) ?_
                                                                refine s_aload_n (pc := 1152) (k0 := 0) (i := 0) rfl 0 rfl (by decide +kernel) ?_
                                                                refine s_iload_n (pc := 1153) (k0 := 3) (i := 3) rfl 3 rfl (by decide +kernel) ?_
                                                                refine s_iconst (pc := 1154) (n := 2) (v := (2 : Int32)) (by decide) (by decide +kernel) ?_
                                                                refine s_iadd (pc := 1155) (by decide +kernel) ?_
                                                                refine S_gd (fun c62 => ?_)
                                                                refine s_iald (pc := 1156) c60 c62 (by decide +kernel) ?_
                                                                refine s_aload_n (pc := 1157) (k0 := 0) (i := 0) rfl 0 rfl (by decide +kernel) ?_
                                                                refine s_iload_n (pc := 1158) (k0 := 3) (i := 3) rfl 3 rfl (by decide +kernel) ?_
                                                                refine s_iconst (pc := 1159) (n := 3) (v := (3 : Int32)) (by decide) (by decide +kernel) ?_
                                                                refine s_iadd (pc := 1160) (by decide +kernel) ?_
                                                                refine S_gd (fun c63 => ?_)
                                                                refine s_iald (pc := 1161) c60 c63 (by decide +kernel) ?_
                                                                refine S_gd (fun c64 => ?_)
                                                                refine s_cVi (pc := 1162) [.int (hI g57 a0 (a3 + (1 : Int32)).toNatClampNeg), .int (hI g57 a0 (a3 + (2 : Int32)).toNatClampNeg), .int (hI g57 a0 (a3 + (3 : Int32)).toNatClampNeg)] (tX7_places a2 (hI g57 a0 (a3 + (1 : Int32)).toNatClampNeg) (hI g57 a0 (a3 + (2 : Int32)).toNatClampNeg) (hI g57 a0 (a3 + (3 : Int32)).toNatClampNeg) g57) c64 cw_L_139 rfl ⟨⟨Nat.le_of_ble_eq_true rfl, Nat.le_of_ble_eq_true rfl⟩, Nat.le_of_ble_eq_true rfl⟩ rfl (by decide +kernel) (fun w67 g65 e66 => ?_)
                                                                refine s_icmp_eq (pc := 1165) (off := 128) 1293 (by decide +kernel) (by decide) (fun _ => ?_) (fun _ => ?_)
                                                                · exact pL_law_b1293 hr18 a0 a1 a2 a3 g65
                                                                · refine s_iconst (pc := 1168) (n := 0) (v := (0 : Int32)) (by decide) (by decide +kernel) ?_
                                                                  exact s_zret (pc := 1169) (by decide) rfl (by decide +kernel)
                                                              · refine S_ite (fun e => ?_) (fun ne30 => ?_)
                                                                · refine s_tableIn (pc := 33) (dflt := 1260) (lo := 0) (hi := 33) (offs := #[151, 214, 237, 260, 273, 316, 339, 372, 405, 438, 461, 484, 527, 570, 603, 626, 649, 662, 685, 708, 742, 785, 829, 862, 906, 939, 972, 1016, 1050, 1094, 1137, 1191, 1224, 1247]) (len := 151) (off := 1137) 1170 (by decide +kernel) (by rw [e]; decide) (by rw [e]; decide) (by rw [e]; rfl) (by decide) ?_
                                                                  refine s_aload_n (pc := 1170) (k0 := 1) (i := 1) rfl 1 rfl (by decide +kernel) ?_
                                                                  refine s_aload_n (pc := 1171) (k0 := 0) (i := 0) rfl 0 rfl (by decide +kernel) ?_
                                                                  refine s_iload_n (pc := 1172) (k0 := 3) (i := 3) rfl 3 rfl (by decide +kernel) ?_
                                                                  refine s_iconst (pc := 1173) (n := 1) (v := (1 : Int32)) (by decide) (by decide +kernel) ?_
                                                                  refine s_iadd (pc := 1174) (by decide +kernel) ?_
                                                                  refine S_gd (fun c36 => ?_)
                                                                  refine s_iald (pc := 1175) c1 c36 (by decide +kernel) ?_
                                                                  refine s_aload_n (pc := 1176) (k0 := 0) (i := 0) rfl 0 rfl (by decide +kernel) ?_
                                                                  refine s_iload_n (pc := 1177) (k0 := 3) (i := 3) rfl 3 rfl (by decide +kernel) ?_
                                                                  refine s_iconst (pc := 1178) (n := 2) (v := (2 : Int32)) (by decide) (by decide +kernel) ?_
                                                                  refine s_iadd (pc := 1179) (by decide +kernel) ?_
                                                                  refine S_gd (fun c37 => ?_)
                                                                  refine s_iald (pc := 1180) c1 c37 (by decide +kernel) ?_
                                                                  refine s_aload_n (pc := 1181) (k0 := 0) (i := 0) rfl 0 rfl (by decide +kernel) ?_
                                                                  refine s_iload_n (pc := 1182) (k0 := 3) (i := 3) rfl 3 rfl (by decide +kernel) ?_
                                                                  refine s_iconst (pc := 1183) (n := 3) (v := (3 : Int32)) (by decide) (by decide +kernel) ?_
                                                                  refine s_iadd (pc := 1184) (by decide +kernel) ?_
                                                                  refine S_gd (fun c38 => ?_)
                                                                  refine s_iald (pc := 1185) c1 c38 (by decide +kernel) ?_
                                                                  refine s_aload_n (pc := 1186) (k0 := 0) (i := 0) rfl 0 rfl (by decide +kernel) ?_
                                                                  refine s_iload_n (pc := 1187) (k0 := 3) (i := 3) rfl 3 rfl (by decide +kernel) ?_
                                                                  refine s_iconst (pc := 1188) (n := 4) (v := (4 : Int32)) (by decide) (by decide +kernel) ?_
                                                                  refine s_iadd (pc := 1189) (by decide +kernel) ?_
                                                                  refine S_gd (fun c39 => ?_)
                                                                  refine s_iald (pc := 1190) c1 c39 (by decide +kernel) ?_
                                                                  refine S_gd (fun c40 => ?_)
                                                                  refine s_cVj (pc := 1191) [.int (hI h a0 (a3 + (1 : Int32)).toNatClampNeg), .int (hI h a0 (a3 + (2 : Int32)).toNatClampNeg), .int (hI h a0 (a3 + (3 : Int32)).toNatClampNeg), .int (hI h a0 (a3 + (4 : Int32)).toNatClampNeg)] (tX6_split a1 (hI h a0 (a3 + (1 : Int32)).toNatClampNeg) (hI h a0 (a3 + (2 : Int32)).toNatClampNeg) (hI h a0 (a3 + (3 : Int32)).toNatClampNeg) (hI h a0 (a3 + (4 : Int32)).toNatClampNeg) h) c40 cw_L_140 rfl ⟨⟨Nat.le_of_ble_eq_true rfl, Nat.le_of_ble_eq_true rfl⟩, Nat.le_of_ble_eq_true rfl⟩ rfl (by decide +kernel) (fun w43 g41 e42 => ?_)
                                                                  refine s_aload_n (pc := 1194) (k0 := 2) (i := 2) rfl 2 rfl (by decide +kernel) ?_
                                                                  refine s_aload_n (pc := 1195) (k0 := 0) (i := 0) rfl 0 rfl (by decide +kernel) ?_
                                                                  refine s_iload_n (pc := 1196) (k0 := 3) (i := 3) rfl 3 rfl (by decide +kernel) ?_
                                                                  refine s_iconst (pc := 1197) (n := 1) (v := (1 : Int32)) (by decide) (by decide +kernel) ?_
                                                                  refine s_iadd (pc := 1198) (by decide +kernel) ?_
                                                                  have c44 := kp e42 c1 (by decide)
                                                                  refine S_gd (fun c45 => ?_)
                                                                  refine s_iald (pc := 1199) c44 c45 (by decide +kernel) ?_
                                                                  refine s_aload_n (pc := 1200) (k0 := 0) (i := 0) rfl 0 rfl (by decide +kernel) ?_
                                                                  refine s_iload_n (pc := 1201) (k0 := 3) (i := 3) rfl 3 rfl (by decide +kernel) ?_
                                                                  refine s_iconst (pc := 1202) (n := 2) (v := (2 : Int32)) (by decide) (by decide +kernel) ?_
                                                                  refine s_iadd (pc := 1203) (by decide +kernel) ?_
                                                                  refine S_gd (fun c46 => ?_)
                                                                  refine s_iald (pc := 1204) c44 c46 (by decide +kernel) ?_
                                                                  refine s_aload_n (pc := 1205) (k0 := 0) (i := 0) rfl 0 rfl (by decide +kernel) ?_
                                                                  refine s_iload_n (pc := 1206) (k0 := 3) (i := 3) rfl 3 rfl (by decide +kernel) ?_
                                                                  refine s_iconst (pc := 1207) (n := 3) (v := (3 : Int32)) (by decide) (by decide +kernel) ?_
                                                                  refine s_iadd (pc := 1208) (by decide +kernel) ?_
                                                                  refine S_gd (fun c47 => ?_)
                                                                  refine s_iald (pc := 1209) c44 c47 (by decide +kernel) ?_
                                                                  refine s_aload_n (pc := 1210) (k0 := 0) (i := 0) rfl 0 rfl (by decide +kernel) ?_
                                                                  refine s_iload_n (pc := 1211) (k0 := 3) (i := 3) rfl 3 rfl (by decide +kernel) ?_
                                                                  refine s_iconst (pc := 1212) (n := 4) (v := (4 : Int32)) (by decide) (by decide +kernel) ?_
                                                                  refine s_iadd (pc := 1213) (by decide +kernel) ?_
                                                                  refine S_gd (fun c48 => ?_)
                                                                  refine s_iald (pc := 1214) c44 c48 (by decide +kernel) ?_
                                                                  refine S_gd (fun c49 => ?_)
                                                                  refine s_cVj (pc := 1215) [.int (hI g41 a0 (a3 + (1 : Int32)).toNatClampNeg), .int (hI g41 a0 (a3 + (2 : Int32)).toNatClampNeg), .int (hI g41 a0 (a3 + (3 : Int32)).toNatClampNeg), .int (hI g41 a0 (a3 + (4 : Int32)).toNatClampNeg)] (tX7_split a2 (hI g41 a0 (a3 + (1 : Int32)).toNatClampNeg) (hI g41 a0 (a3 + (2 : Int32)).toNatClampNeg) (hI g41 a0 (a3 + (3 : Int32)).toNatClampNeg) (hI g41 a0 (a3 + (4 : Int32)).toNatClampNeg) g41) c49 cw_L_144 rfl ⟨⟨Nat.le_of_ble_eq_true rfl, Nat.le_of_ble_eq_true rfl⟩, Nat.le_of_ble_eq_true rfl⟩ rfl (by decide +kernel) (fun w52 g50 e51 => ?_)
                                                                  refine s_lcmp (pc := 1218) (by decide +kernel) ?_
                                                                  refine s_if_eq (pc := 1219) (off := 74) 1293 (by decide +kernel) (by decide) (fun _ => ?_) (fun _ => ?_)
                                                                  · exact pL_law_b1293 hr18 a0 a1 a2 a3 g50
                                                                  · refine s_iconst (pc := 1222) (n := 0) (v := (0 : Int32)) (by decide) (by decide +kernel) ?_
                                                                    exact s_zret (pc := 1223) (by decide) rfl (by decide +kernel)
                                                                · refine S_ite (fun e => ?_) (fun ne31 => ?_)
                                                                  · refine s_tableIn (pc := 33) (dflt := 1260) (lo := 0) (hi := 33) (offs := #[151, 214, 237, 260, 273, 316, 339, 372, 405, 438, 461, 484, 527, 570, 603, 626, 649, 662, 685, 708, 742, 785, 829, 862, 906, 939, 972, 1016, 1050, 1094, 1137, 1191, 1224, 1247]) (len := 151) (off := 1191) 1224 (by decide +kernel) (by rw [e]; decide) (by rw [e]; decide) (by rw [e]; rfl) (by decide) ?_
                                                                    refine s_aload_n (pc := 1224) (k0 := 1) (i := 1) rfl 1 rfl (by decide +kernel) ?_
                                                                    refine s_aload_n (pc := 1225) (k0 := 0) (i := 0) rfl 0 rfl (by decide +kernel) ?_
                                                                    refine s_iload_n (pc := 1226) (k0 := 3) (i := 3) rfl 3 rfl (by decide +kernel) ?_
                                                                    refine s_iconst (pc := 1227) (n := 1) (v := (1 : Int32)) (by decide) (by decide +kernel) ?_
                                                                    refine s_iadd (pc := 1228) (by decide +kernel) ?_
                                                                    refine S_gd (fun c23 => ?_)
                                                                    refine s_iald (pc := 1229) c1 c23 (by decide +kernel) ?_
                                                                    refine s_aload_n (pc := 1230) (k0 := 0) (i := 0) rfl 0 rfl (by decide +kernel) ?_
                                                                    refine s_iload_n (pc := 1231) (k0 := 3) (i := 3) rfl 3 rfl (by decide +kernel) ?_
                                                                    refine s_iconst (pc := 1232) (n := 2) (v := (2 : Int32)) (by decide) (by decide +kernel) ?_
                                                                    refine s_iadd (pc := 1233) (by decide +kernel) ?_
                                                                    refine S_gd (fun c24 => ?_)
                                                                    refine s_iald (pc := 1234) c1 c24 (by decide +kernel) ?_
                                                                    refine S_gd (fun c25 => ?_)
                                                                    refine s_cVi (pc := 1235) [.int (hI h a0 (a3 + (1 : Int32)).toNatClampNeg), .int (hI h a0 (a3 + (2 : Int32)).toNatClampNeg)] (tX6_compare a1 (hI h a0 (a3 + (1 : Int32)).toNatClampNeg) (hI h a0 (a3 + (2 : Int32)).toNatClampNeg) h) c25 cw_L_145 rfl ⟨⟨Nat.le_of_ble_eq_true rfl, Nat.le_of_ble_eq_true rfl⟩, Nat.le_of_ble_eq_true rfl⟩ rfl (by decide +kernel) (fun w28 g26 e27 => ?_)
                                                                    refine s_aload_n (pc := 1238) (k0 := 2) (i := 2) rfl 2 rfl (by decide +kernel) ?_
                                                                    refine s_aload_n (pc := 1239) (k0 := 0) (i := 0) rfl 0 rfl (by decide +kernel) ?_
                                                                    refine s_iload_n (pc := 1240) (k0 := 3) (i := 3) rfl 3 rfl (by decide +kernel) ?_
                                                                    refine s_iconst (pc := 1241) (n := 1) (v := (1 : Int32)) (by decide) (by decide +kernel) ?_
                                                                    refine s_iadd (pc := 1242) (by decide +kernel) ?_
                                                                    have c29 := kp e27 c1 (by decide)
                                                                    refine S_gd (fun c30 => ?_)
                                                                    refine s_iald (pc := 1243) c29 c30 (by decide +kernel) ?_
                                                                    refine s_aload_n (pc := 1244) (k0 := 0) (i := 0) rfl 0 rfl (by decide +kernel) ?_
                                                                    refine s_iload_n (pc := 1245) (k0 := 3) (i := 3) rfl 3 rfl (by decide +kernel) ?_
                                                                    refine s_iconst (pc := 1246) (n := 2) (v := (2 : Int32)) (by decide) (by decide +kernel) ?_
                                                                    refine s_iadd (pc := 1247) (by decide +kernel) ?_
                                                                    refine S_gd (fun c31 => ?_)
                                                                    refine s_iald (pc := 1248) c29 c31 (by decide +kernel) ?_
                                                                    refine S_gd (fun c32 => ?_)
                                                                    refine s_cVi (pc := 1249) [.int (hI g26 a0 (a3 + (1 : Int32)).toNatClampNeg), .int (hI g26 a0 (a3 + (2 : Int32)).toNatClampNeg)] (tX7_compare a2 (hI g26 a0 (a3 + (1 : Int32)).toNatClampNeg) (hI g26 a0 (a3 + (2 : Int32)).toNatClampNeg) g26) c32 cw_L_148 rfl ⟨⟨Nat.le_of_ble_eq_true rfl, Nat.le_of_ble_eq_true rfl⟩, Nat.le_of_ble_eq_true rfl⟩ rfl (by decide +kernel) (fun w35 g33 e34 => ?_)
                                                                    refine s_icmp_eq (pc := 1252) (off := 41) 1293 (by decide +kernel) (by decide) (fun _ => ?_) (fun _ => ?_)
                                                                    · exact pL_law_b1293 hr18 a0 a1 a2 a3 g33
                                                                    · refine s_iconst (pc := 1255) (n := 0) (v := (0 : Int32)) (by decide) (by decide +kernel) ?_
                                                                      exact s_zret (pc := 1256) (by decide) rfl (by decide +kernel)
                                                                  · refine S_ite (fun e => ?_) (fun ne32 => ?_)
                                                                    · refine s_tableIn (pc := 33) (dflt := 1260) (lo := 0) (hi := 33) (offs := #[151, 214, 237, 260, 273, 316, 339, 372, 405, 438, 461, 484, 527, 570, 603, 626, 649, 662, 685, 708, 742, 785, 829, 862, 906, 939, 972, 1016, 1050, 1094, 1137, 1191, 1224, 1247]) (len := 151) (off := 1224) 1257 (by decide +kernel) (by rw [e]; decide) (by rw [e]; decide) (by rw [e]; rfl) (by decide) ?_
                                                                      refine s_aload_n (pc := 1257) (k0 := 1) (i := 1) rfl 1 rfl (by decide +kernel) ?_
                                                                      refine s_aload_n (pc := 1258) (k0 := 0) (i := 0) rfl 0 rfl (by decide +kernel) ?_
                                                                      refine s_iload_n (pc := 1259) (k0 := 3) (i := 3) rfl 3 rfl (by decide +kernel) ?_
                                                                      refine s_iconst (pc := 1260) (n := 1) (v := (1 : Int32)) (by decide) (by decide +kernel) ?_
                                                                      refine s_iadd (pc := 1261) (by decide +kernel) ?_
                                                                      refine S_gd (fun c12 => ?_)
                                                                      refine s_iald (pc := 1262) c1 c12 (by decide +kernel) ?_
                                                                      refine S_gd (fun c13 => ?_)
                                                                      refine s_cVi (pc := 1263) [.int (hI h a0 (a3 + (1 : Int32)).toNatClampNeg)] (tX6_count a1 (hI h a0 (a3 + (1 : Int32)).toNatClampNeg) h) c13 cw_L_149 rfl ⟨⟨Nat.le_of_ble_eq_true rfl, Nat.le_of_ble_eq_true rfl⟩, Nat.le_of_ble_eq_true rfl⟩ rfl (by decide +kernel) (fun w16 g14 e15 => ?_)
                                                                      refine s_aload_n (pc := 1266) (k0 := 2) (i := 2) rfl 2 rfl (by decide +kernel) ?_
                                                                      refine s_aload_n (pc := 1267) (k0 := 0) (i := 0) rfl 0 rfl (by decide +kernel) ?_
                                                                      refine s_iload_n (pc := 1268) (k0 := 3) (i := 3) rfl 3 rfl (by decide +kernel) ?_
                                                                      refine s_iconst (pc := 1269) (n := 1) (v := (1 : Int32)) (by decide) (by decide +kernel) ?_
                                                                      refine s_iadd (pc := 1270) (by decide +kernel) ?_
                                                                      have c17 := kp e15 c1 (by decide)
                                                                      refine S_gd (fun c18 => ?_)
                                                                      refine s_iald (pc := 1271) c17 c18 (by decide +kernel) ?_
                                                                      refine S_gd (fun c19 => ?_)
                                                                      refine s_cVi (pc := 1272) [.int (hI g14 a0 (a3 + (1 : Int32)).toNatClampNeg)] (tX7_count a2 (hI g14 a0 (a3 + (1 : Int32)).toNatClampNeg) g14) c19 cw_L_152 rfl ⟨⟨Nat.le_of_ble_eq_true rfl, Nat.le_of_ble_eq_true rfl⟩, Nat.le_of_ble_eq_true rfl⟩ rfl (by decide +kernel) (fun w22 g20 e21 => ?_)
                                                                      refine s_icmp_eq (pc := 1275) (off := 18) 1293 (by decide +kernel) (by decide) (fun _ => ?_) (fun _ => ?_)
                                                                      · exact pL_law_b1293 hr18 a0 a1 a2 a3 g20
                                                                      · refine s_iconst (pc := 1278) (n := 0) (v := (0 : Int32)) (by decide) (by decide +kernel) ?_
                                                                        exact s_zret (pc := 1279) (by decide) rfl (by decide +kernel)
                                                                    · refine S_ite (fun e => ?_) (fun ne33 => ?_)
                                                                      · refine s_tableIn (pc := 33) (dflt := 1260) (lo := 0) (hi := 33) (offs := #[151, 214, 237, 260, 273, 316, 339, 372, 405, 438, 461, 484, 527, 570, 603, 626, 649, 662, 685, 708, 742, 785, 829, 862, 906, 939, 972, 1016, 1050, 1094, 1137, 1191, 1224, 1247]) (len := 151) (off := 1247) 1280 (by decide +kernel) (by rw [e]; decide) (by rw [e]; decide) (by rw [e]; rfl) (by decide) ?_
                                                                        refine s_aload_n (pc := 1280) (k0 := 1) (i := 1) rfl 1 rfl (by decide +kernel) ?_
                                                                        refine S_gd (fun c4 => ?_)
                                                                        refine s_cVi (pc := 1281) [] (tX6_status a1 h) c4 cw_L_153 rfl ⟨⟨Nat.le_of_ble_eq_true rfl, Nat.le_of_ble_eq_true rfl⟩, Nat.le_of_ble_eq_true rfl⟩ rfl (by decide +kernel) (fun w7 g5 e6 => ?_)
                                                                        refine s_aload_n (pc := 1284) (k0 := 2) (i := 2) rfl 2 rfl (by decide +kernel) ?_
                                                                        refine S_gd (fun c8 => ?_)
                                                                        refine s_cVi (pc := 1285) [] (tX7_status a2 g5) c8 cw_L_156 rfl ⟨⟨Nat.le_of_ble_eq_true rfl, Nat.le_of_ble_eq_true rfl⟩, Nat.le_of_ble_eq_true rfl⟩ rfl (by decide +kernel) (fun w11 g9 e10 => ?_)
                                                                        refine s_icmp_eq (pc := 1288) (off := 5) 1293 (by decide +kernel) (by decide) (fun _ => ?_) (fun _ => ?_)
                                                                        · exact pL_law_b1293 hr18 a0 a1 a2 a3 g9
                                                                        · refine s_iconst (pc := 1291) (n := 0) (v := (0 : Int32)) (by decide) (by decide +kernel) ?_
                                                                          exact s_zret (pc := 1292) (by decide) rfl (by decide +kernel)
                                                                      · have tn0 := tb_ne ne0 (n := 0) (by decide)
                                                                        have tn1 := tb_ne ne1 (n := 1) (by decide)
                                                                        have tn2 := tb_ne ne2 (n := 2) (by decide)
                                                                        have tn3 := tb_ne ne3 (n := 3) (by decide)
                                                                        have tn4 := tb_ne ne4 (n := 4) (by decide)
                                                                        have tn5 := tb_ne ne5 (n := 5) (by decide)
                                                                        have tn6 := tb_ne ne6 (n := 6) (by decide)
                                                                        have tn7 := tb_ne ne7 (n := 7) (by decide)
                                                                        have tn8 := tb_ne ne8 (n := 8) (by decide)
                                                                        have tn9 := tb_ne ne9 (n := 9) (by decide)
                                                                        have tn10 := tb_ne ne10 (n := 10) (by decide)
                                                                        have tn11 := tb_ne ne11 (n := 11) (by decide)
                                                                        have tn12 := tb_ne ne12 (n := 12) (by decide)
                                                                        have tn13 := tb_ne ne13 (n := 13) (by decide)
                                                                        have tn14 := tb_ne ne14 (n := 14) (by decide)
                                                                        have tn15 := tb_ne ne15 (n := 15) (by decide)
                                                                        have tn16 := tb_ne ne16 (n := 16) (by decide)
                                                                        have tn17 := tb_ne ne17 (n := 17) (by decide)
                                                                        have tn18 := tb_ne ne18 (n := 18) (by decide)
                                                                        have tn19 := tb_ne ne19 (n := 19) (by decide)
                                                                        have tn20 := tb_ne ne20 (n := 20) (by decide)
                                                                        have tn21 := tb_ne ne21 (n := 21) (by decide)
                                                                        have tn22 := tb_ne ne22 (n := 22) (by decide)
                                                                        have tn23 := tb_ne ne23 (n := 23) (by decide)
                                                                        have tn24 := tb_ne ne24 (n := 24) (by decide)
                                                                        have tn25 := tb_ne ne25 (n := 25) (by decide)
                                                                        have tn26 := tb_ne ne26 (n := 26) (by decide)
                                                                        have tn27 := tb_ne ne27 (n := 27) (by decide)
                                                                        have tn28 := tb_ne ne28 (n := 28) (by decide)
                                                                        have tn29 := tb_ne ne29 (n := 29) (by decide)
                                                                        have tn30 := tb_ne ne30 (n := 30) (by decide)
                                                                        have tn31 := tb_ne ne31 (n := 31) (by decide)
                                                                        have tn32 := tb_ne ne32 (n := 32) (by decide)
                                                                        have tn33 := tb_ne ne33 (n := 33) (by decide)
                                                                        refine s_tableOut (pc := 33) (dflt := 1260) (lo := 0) (hi := 33) (offs := #[151, 214, 237, 260, 273, 316, 339, 372, 405, 438, 461, 484, 527, 570, 603, 626, 649, 662, 685, 708, 742, 785, 829, 862, 906, 939, 972, 1016, 1050, 1094, 1137, 1191, 1224, 1247]) (len := 151) 1293 (by decide +kernel) (by omega) (by decide) ?_
                                                                        exact pL_law_b1293 hr18 a0 a1 a2 a3 h
theorem pL_law_l18 (n : Nat) (xs : Nat → Int32) {h0 : xH}   : ∀ (k : Nat)  (a0 : Nat) (a1 : Nat) (a2 : Nat) (a3 : Int32) (h : xH), S emI (kL_law n xs) h0 18 [(0, .ref a0), (1, .ref a1), (2, .ref a2), (3, .int a3)] [] h (fL_law_l18 n xs  k  a0 a1 a2 a3 h) := by
  intro k
  induction k with
  | zero => intros; exact S_none
  | succ k ih => intro  a0 a1 a2 a3 h; exact pL_law_b18 n xs ih  a0 a1 a2 a3 h
theorem pL_law_e (n : Nat) (xs : Nat → Int32)    (h : xH) : S emI (kL_law n xs) h 0 [(0, .ref 1)] [] h (fL_law n xs  h) := by
  unfold fL_law
  refine s_new (pc := 0) nt_L_7 dv_6 (by decide +kernel) ?_
  refine s_nmN (fun q2 g1 c4 e3 => ?_)
  refine s_dup_a (pc := 3) (by decide +kernel) ?_
  refine s_cI (pc := 4) [] (tX6_init q2 g1) (k2r c4 (by decide)) rfl cw_L_9 rfl ⟨⟨Nat.le_of_ble_eq_true rfl, Nat.le_of_ble_eq_true rfl⟩, Nat.le_of_ble_eq_true rfl⟩ rfl (by decide +kernel) (fun _ g5 e6 => ?_)
  refine s_astore_n (pc := 7) (L' := [(1, .ref q2), (0, .ref 1)]) (k0 := 1) (i := 1) rfl (by decide) rfl (by decide +kernel) ?_
  refine s_new (pc := 8) nt_L_10 dv_7 (by decide +kernel) ?_
  refine s_nmN (fun q8 g7 c10 e9 => ?_)
  refine s_dup_a (pc := 11) (by decide +kernel) ?_
  refine s_cI (pc := 12) [] (tX7_init q8 g7) (k2r c10 (by decide)) rfl cw_L_12 rfl ⟨⟨Nat.le_of_ble_eq_true rfl, Nat.le_of_ble_eq_true rfl⟩, Nat.le_of_ble_eq_true rfl⟩ rfl (by decide +kernel) (fun _ g11 e12 => ?_)
  refine s_astore_n (pc := 15) (L' := [(2, .ref q8), (1, .ref q2), (0, .ref 1)]) (k0 := 2) (i := 2) rfl (by decide) rfl (by decide +kernel) ?_
  refine s_iconst (pc := 16) (n := 0) (v := (0 : Int32)) (by decide) (by decide +kernel) ?_
  refine s_nmI (fun v13 => ?_)
  refine s_istore_n (pc := 17) (L' := [(3, .int v13), (2, .ref q8), (1, .ref q2), (0, .ref 1)]) (k0 := 3) (i := 3) rfl (by decide) rfl (by decide +kernel) ?_
  refine S_sub [3, 2, 1, 0] rfl ?_
  exact pL_law_l18 FU 1 q2 q8 v13 g11
