abbrev kL_law (n : Nat) (xs : Nat → Int32) : xK := (cL_law, RL, "law", 4, 11, 536, ((some .boolean) : Option FieldType), (some (n, xs)))
def fL_law_b1293 (n : Nat) (xs : Nat → Int32) (r18 : Nat → Nat → Int32 → xH → Option (Int32 × xH))  (a1 : Nat) (a2 : Nat) (a3 : Int32) (h : xH) : Option (Int32 × xH) :=
  lt (a3 + (6 : Int32)) (fun v1 =>
  r18 a1 a2 v1 h)
def fL_law_b18 (n : Nat) (xs : Nat → Int32) (r18 : Nat → Nat → Int32 → xH → Option (Int32 × xH))  (a1 : Nat) (a2 : Nat) (a3 : Int32) (h : xH) : Option (Int32 × xH) :=
  if ((Int32.ofNat n) - (6 : Int32)) < a3 then (
  some ((1 : Int32), h))
  else (
  if ix a3 n then
  lt ((xs a3.toNatClampNeg) &&& (63 : Int32)) (fun v2 =>
  if v2 = (0 : Int32) then
  (if ix (a3 + (1 : Int32)) n then
  if ix (a3 + (2 : Int32)) n then
  if ix (a3 + (3 : Int32)) n then
  if ix (a3 + (4 : Int32)) n then
  if ix (a3 + (5 : Int32)) n then
  if kc h a1 = 6 then
  bd (fX6_feed a1 (xs (a3 + (1 : Int32)).toNatClampNeg) (xs (a3 + (2 : Int32)).toNatClampNeg) (xs (a3 + (3 : Int32)).toNatClampNeg) (xs (a3 + (4 : Int32)).toNatClampNeg) (xs (a3 + (5 : Int32)).toNatClampNeg) h) (fun w336 g334 =>
  if kc g334 a2 = 7 then
  bd (fX7_feed a2 (xs (a3 + (1 : Int32)).toNatClampNeg) (xs (a3 + (2 : Int32)).toNatClampNeg) (xs (a3 + (3 : Int32)).toNatClampNeg) (xs (a3 + (4 : Int32)).toNatClampNeg) (xs (a3 + (5 : Int32)).toNatClampNeg) g334) (fun w340 g338 =>
  if w336 = w340 then (
  fL_law_b1293 n xs r18 a1 a2 a3 g338)
  else (
  some ((0 : Int32), g338)))
  else none)
  else none
  else none
  else none
  else none
  else none
  else none)
  else (
  if v2 = (1 : Int32) then
  (if ix (a3 + (1 : Int32)) n then
  if kc h a1 = 6 then
  bd (fX6_end a1 (xs (a3 + (1 : Int32)).toNatClampNeg) h) (fun w323 g321 =>
  if kc g321 a2 = 7 then
  bd (fX7_end_ a2 (xs (a3 + (1 : Int32)).toNatClampNeg) g321) (fun w327 g325 =>
  if w323 = w327 then (
  fL_law_b1293 n xs r18 a1 a2 a3 g325)
  else (
  some ((0 : Int32), g325)))
  else none)
  else none
  else none)
  else (
  if v2 = (2 : Int32) then
  (if ix (a3 + (1 : Int32)) n then
  if kc h a1 = 6 then
  bd (fX6_read a1 (xs (a3 + (1 : Int32)).toNatClampNeg) h) (fun w314 g312 =>
  if kc g312 a2 = 7 then
  bd (fX7_read a2 (xs (a3 + (1 : Int32)).toNatClampNeg) g312) (fun w318 g316 =>
  if w314 = w318 then (
  fL_law_b1293 n xs r18 a1 a2 a3 g316)
  else (
  some ((0 : Int32), g316)))
  else none)
  else none
  else none)
  else (
  if v2 = (3 : Int32) then
  (if kc h a1 = 6 then
  bd (fX6_fault a1 h) (fun w305 g303 =>
  if kc g303 a2 = 7 then
  bd (fX7_fault a2 g303) (fun w309 g307 =>
  if w305 = w309 then (
  fL_law_b1293 n xs r18 a1 a2 a3 g307)
  else (
  some ((0 : Int32), g307)))
  else none)
  else none)
  else (
  if v2 = (4 : Int32) then
  (if ix (a3 + (1 : Int32)) n then
  if ix (a3 + (2 : Int32)) n then
  if ix (a3 + (3 : Int32)) n then
  if kc h a1 = 6 then
  bd (fX6_dot a1 (xs (a3 + (1 : Int32)).toNatClampNeg) (xs (a3 + (2 : Int32)).toNatClampNeg) (xs (a3 + (3 : Int32)).toNatClampNeg) h) (fun w297 g295 =>
  if kc g295 a2 = 7 then
  bd (fX7_dot a2 (xs (a3 + (1 : Int32)).toNatClampNeg) (xs (a3 + (2 : Int32)).toNatClampNeg) (xs (a3 + (3 : Int32)).toNatClampNeg) g295) (fun w301 g299 =>
  if w297 = w301 then (
  fL_law_b1293 n xs r18 a1 a2 a3 g299)
  else (
  some ((0 : Int32), g299)))
  else none)
  else none
  else none
  else none
  else none)
  else (
  if v2 = (5 : Int32) then
  (if ix (a3 + (1 : Int32)) n then
  if kc h a1 = 6 then
  bd (fX6_clear a1 (xs (a3 + (1 : Int32)).toNatClampNeg) h) (fun w286 g284 =>
  if kc g284 a2 = 7 then
  bd (fX7_clear a2 (xs (a3 + (1 : Int32)).toNatClampNeg) g284) (fun w290 g288 =>
  if w286 = w290 then (
  fL_law_b1293 n xs r18 a1 a2 a3 g288)
  else (
  some ((0 : Int32), g288)))
  else none)
  else none
  else none)
  else (
  if v2 = (6 : Int32) then
  (if ix (a3 + (1 : Int32)) n then
  if ix (a3 + (2 : Int32)) n then
  if kc h a1 = 6 then
  bd (fX6_sum a1 (xs (a3 + (1 : Int32)).toNatClampNeg) (xs (a3 + (2 : Int32)).toNatClampNeg) h) (fun w277 g275 =>
  if kc g275 a2 = 7 then
  bd (fX7_sum a2 (xs (a3 + (1 : Int32)).toNatClampNeg) (xs (a3 + (2 : Int32)).toNatClampNeg) g275) (fun w281 g279 =>
  if w277 = w281 then (
  fL_law_b1293 n xs r18 a1 a2 a3 g279)
  else (
  some ((0 : Int32), g279)))
  else none)
  else none
  else none
  else none)
  else (
  if v2 = (7 : Int32) then
  (if ix (a3 + (1 : Int32)) n then
  if ix (a3 + (2 : Int32)) n then
  if kc h a1 = 6 then
  bd (fX6_under a1 (xs (a3 + (1 : Int32)).toNatClampNeg) (xs (a3 + (2 : Int32)).toNatClampNeg) h) (fun w267 g265 =>
  if kc g265 a2 = 7 then
  bd (fX7_under_ a2 (xs (a3 + (1 : Int32)).toNatClampNeg) (xs (a3 + (2 : Int32)).toNatClampNeg) g265) (fun w271 g269 =>
  if w267 = w271 then (
  fL_law_b1293 n xs r18 a1 a2 a3 g269)
  else (
  some ((0 : Int32), g269)))
  else none)
  else none
  else none
  else none)
  else (
  if v2 = (8 : Int32) then
  (if ix (a3 + (1 : Int32)) n then
  if ix (a3 + (2 : Int32)) n then
  if kc h a1 = 6 then
  bd (fX6_join a1 (xs (a3 + (1 : Int32)).toNatClampNeg) (xs (a3 + (2 : Int32)).toNatClampNeg) h) (fun w257 g255 =>
  if kc g255 a2 = 7 then
  bd (fX7_join a2 (xs (a3 + (1 : Int32)).toNatClampNeg) (xs (a3 + (2 : Int32)).toNatClampNeg) g255) (fun w261 g259 =>
  if w257 = w261 then (
  fL_law_b1293 n xs r18 a1 a2 a3 g259)
  else (
  some ((0 : Int32), g259)))
  else none)
  else none
  else none
  else none)
  else (
  if v2 = (9 : Int32) then
  (if ix (a3 + (1 : Int32)) n then
  if kc h a1 = 6 then
  bd (fX6_turn a1 (xs (a3 + (1 : Int32)).toNatClampNeg) h) (fun w247 g245 =>
  if kc g245 a2 = 7 then
  bd (fX7_turn a2 (xs (a3 + (1 : Int32)).toNatClampNeg) g245) (fun w251 g249 =>
  if w247 = w251 then (
  fL_law_b1293 n xs r18 a1 a2 a3 g249)
  else (
  some ((0 : Int32), g249)))
  else none)
  else none
  else none)
  else (
  if v2 = (10 : Int32) then
  (if ix (a3 + (1 : Int32)) n then
  if kc h a1 = 6 then
  bd (fX6_hull a1 (xs (a3 + (1 : Int32)).toNatClampNeg) h) (fun w238 g236 =>
  if kc g236 a2 = 7 then
  bd (fX7_hull a2 (xs (a3 + (1 : Int32)).toNatClampNeg) g236) (fun w242 g240 =>
  if w238 = w242 then (
  fL_law_b1293 n xs r18 a1 a2 a3 g240)
  else (
  some ((0 : Int32), g240)))
  else none)
  else none
  else none)
  else (
  if v2 = (11 : Int32) then
  (if ix (a3 + (1 : Int32)) n then
  if ix (a3 + (2 : Int32)) n then
  if ix (a3 + (3 : Int32)) n then
  if kc h a1 = 6 then
  bd (fX6_cut a1 (xs (a3 + (1 : Int32)).toNatClampNeg) (xs (a3 + (2 : Int32)).toNatClampNeg) (xs (a3 + (3 : Int32)).toNatClampNeg) h) (fun w229 g227 =>
  if kc g227 a2 = 7 then
  bd (fX7_cut a2 (xs (a3 + (1 : Int32)).toNatClampNeg) (xs (a3 + (2 : Int32)).toNatClampNeg) (xs (a3 + (3 : Int32)).toNatClampNeg) g227) (fun w233 g231 =>
  if w229 = w233 then (
  fL_law_b1293 n xs r18 a1 a2 a3 g231)
  else (
  some ((0 : Int32), g231)))
  else none)
  else none
  else none
  else none
  else none)
  else (
  if v2 = (12 : Int32) then
  (if ix (a3 + (1 : Int32)) n then
  if ix (a3 + (2 : Int32)) n then
  if ix (a3 + (3 : Int32)) n then
  if kc h a1 = 6 then
  bd (fX6_move a1 (xs (a3 + (1 : Int32)).toNatClampNeg) (xs (a3 + (2 : Int32)).toNatClampNeg) (xs (a3 + (3 : Int32)).toNatClampNeg) h) (fun w218 g216 =>
  if kc g216 a2 = 7 then
  bd (fX7_move a2 (xs (a3 + (1 : Int32)).toNatClampNeg) (xs (a3 + (2 : Int32)).toNatClampNeg) (xs (a3 + (3 : Int32)).toNatClampNeg) g216) (fun w222 g220 =>
  if w218 = w222 then (
  fL_law_b1293 n xs r18 a1 a2 a3 g220)
  else (
  some ((0 : Int32), g220)))
  else none)
  else none
  else none
  else none
  else none)
  else (
  if v2 = (13 : Int32) then
  (if ix (a3 + (1 : Int32)) n then
  if ix (a3 + (2 : Int32)) n then
  if kc h a1 = 6 then
  bd (fX6_times a1 (xs (a3 + (1 : Int32)).toNatClampNeg) (xs (a3 + (2 : Int32)).toNatClampNeg) h) (fun w207 g205 =>
  if kc g205 a2 = 7 then
  bd (fX7_times a2 (xs (a3 + (1 : Int32)).toNatClampNeg) (xs (a3 + (2 : Int32)).toNatClampNeg) g205) (fun w211 g209 =>
  if w207 = w211 then (
  fL_law_b1293 n xs r18 a1 a2 a3 g209)
  else (
  some ((0 : Int32), g209)))
  else none)
  else none
  else none
  else none)
  else (
  if v2 = (14 : Int32) then
  (if ix (a3 + (1 : Int32)) n then
  if kc h a1 = 6 then
  bd (fX6_lay a1 (xs (a3 + (1 : Int32)).toNatClampNeg) h) (fun w197 g195 =>
  if kc g195 a2 = 7 then
  bd (fX7_lay_ a2 (xs (a3 + (1 : Int32)).toNatClampNeg) g195) (fun w201 g199 =>
  if w197 = w201 then (
  fL_law_b1293 n xs r18 a1 a2 a3 g199)
  else (
  some ((0 : Int32), g199)))
  else none)
  else none
  else none)
  else (
  if v2 = (15 : Int32) then
  (if ix (a3 + (1 : Int32)) n then
  if kc h a1 = 6 then
  bd (fX6_put a1 (xs (a3 + (1 : Int32)).toNatClampNeg) h) (fun w188 g186 =>
  if kc g186 a2 = 7 then
  bd (fX7_put a2 (xs (a3 + (1 : Int32)).toNatClampNeg) g186) (fun w192 g190 =>
  if w188 = w192 then (
  fL_law_b1293 n xs r18 a1 a2 a3 g190)
  else (
  some ((0 : Int32), g190)))
  else none)
  else none
  else none)
  else (
  if v2 = (16 : Int32) then
  (if kc h a1 = 6 then
  bd (fX6_undo a1 h) (fun w179 g177 =>
  if kc g177 a2 = 7 then
  bd (fX7_undo a2 g177) (fun w183 g181 =>
  if w179 = w183 then (
  fL_law_b1293 n xs r18 a1 a2 a3 g181)
  else (
  some ((0 : Int32), g181)))
  else none)
  else none)
  else (
  if v2 = (17 : Int32) then
  (if ix (a3 + (1 : Int32)) n then
  if kc h a1 = 6 then
  bd (fX6_image a1 (xs (a3 + (1 : Int32)).toNatClampNeg) h) (fun w171 g169 =>
  if kc g169 a2 = 7 then
  bd (fX7_image a2 (xs (a3 + (1 : Int32)).toNatClampNeg) g169) (fun w175 g173 =>
  if w171 = w175 then (
  fL_law_b1293 n xs r18 a1 a2 a3 g173)
  else (
  some ((0 : Int32), g173)))
  else none)
  else none
  else none)
  else (
  if v2 = (18 : Int32) then
  (if ix (a3 + (1 : Int32)) n then
  if kc h a1 = 6 then
  bd (fX6_back a1 (xs (a3 + (1 : Int32)).toNatClampNeg) h) (fun w162 g160 =>
  if kc g160 a2 = 7 then
  bd (fX7_back a2 (xs (a3 + (1 : Int32)).toNatClampNeg) g160) (fun w166 g164 =>
  if w162 = w166 then (
  fL_law_b1293 n xs r18 a1 a2 a3 g164)
  else (
  some ((0 : Int32), g164)))
  else none)
  else none
  else none)
  else (
  if v2 = (19 : Int32) then
  (if ix (a3 + (1 : Int32)) n then
  if ix (a3 + (2 : Int32)) n then
  if kc h a1 = 6 then
  bd (fX6_paper a1 (xs (a3 + (1 : Int32)).toNatClampNeg) (xs (a3 + (2 : Int32)).toNatClampNeg) h) (fun w153 g151 =>
  if kc g151 a2 = 7 then
  bd (fX7_paper a2 (xs (a3 + (1 : Int32)).toNatClampNeg) (xs (a3 + (2 : Int32)).toNatClampNeg) g151) (fun w157 g155 =>
  if (lg_cmp w153 w157) = 0 then (
  fL_law_b1293 n xs r18 a1 a2 a3 g155)
  else (
  some ((0 : Int32), g155)))
  else none)
  else none
  else none
  else none)
  else (
  if v2 = (20 : Int32) then
  (if ix (a3 + (1 : Int32)) n then
  if ix (a3 + (2 : Int32)) n then
  if ix (a3 + (3 : Int32)) n then
  if kc h a1 = 6 then
  bd (fX6_knot a1 (xs (a3 + (1 : Int32)).toNatClampNeg) (xs (a3 + (2 : Int32)).toNatClampNeg) (xs (a3 + (3 : Int32)).toNatClampNeg) h) (fun w143 g141 =>
  if kc g141 a2 = 7 then
  bd (fX7_knot_ a2 (xs (a3 + (1 : Int32)).toNatClampNeg) (xs (a3 + (2 : Int32)).toNatClampNeg) (xs (a3 + (3 : Int32)).toNatClampNeg) g141) (fun w147 g145 =>
  if w143 = w147 then (
  fL_law_b1293 n xs r18 a1 a2 a3 g145)
  else (
  some ((0 : Int32), g145)))
  else none)
  else none
  else none
  else none
  else none)
  else (
  if v2 = (21 : Int32) then
  (if ix (a3 + (1 : Int32)) n then
  if ix (a3 + (2 : Int32)) n then
  if ix (a3 + (3 : Int32)) n then
  if kc h a1 = 6 then
  bd (fX6_value a1 (xs (a3 + (1 : Int32)).toNatClampNeg) (xs (a3 + (2 : Int32)).toNatClampNeg) (xs (a3 + (3 : Int32)).toNatClampNeg) h) (fun w132 g130 =>
  if kc g130 a2 = 7 then
  bd (fX7_value a2 (xs (a3 + (1 : Int32)).toNatClampNeg) (xs (a3 + (2 : Int32)).toNatClampNeg) (xs (a3 + (3 : Int32)).toNatClampNeg) g130) (fun w136 g134 =>
  if (lg_cmp w132 w136) = 0 then (
  fL_law_b1293 n xs r18 a1 a2 a3 g134)
  else (
  some ((0 : Int32), g134)))
  else none)
  else none
  else none
  else none
  else none)
  else (
  if v2 = (22 : Int32) then
  (if ix (a3 + (1 : Int32)) n then
  if ix (a3 + (2 : Int32)) n then
  if kc h a1 = 6 then
  bd (fX6_bits a1 (xs (a3 + (1 : Int32)).toNatClampNeg) (xs (a3 + (2 : Int32)).toNatClampNeg) h) (fun w121 g119 =>
  if kc g119 a2 = 7 then
  bd (fX7_bits a2 (xs (a3 + (1 : Int32)).toNatClampNeg) (xs (a3 + (2 : Int32)).toNatClampNeg) g119) (fun w125 g123 =>
  if w121 = w125 then (
  fL_law_b1293 n xs r18 a1 a2 a3 g123)
  else (
  some ((0 : Int32), g123)))
  else none)
  else none
  else none
  else none)
  else (
  if v2 = (23 : Int32) then
  (if ix (a3 + (1 : Int32)) n then
  if ix (a3 + (2 : Int32)) n then
  if ix (a3 + (3 : Int32)) n then
  if kc h a1 = 6 then
  bd (fX6_limit a1 (xs (a3 + (1 : Int32)).toNatClampNeg) (xs (a3 + (2 : Int32)).toNatClampNeg) (xs (a3 + (3 : Int32)).toNatClampNeg) h) (fun w111 g109 =>
  if kc g109 a2 = 7 then
  bd (fX7_limit a2 (xs (a3 + (1 : Int32)).toNatClampNeg) (xs (a3 + (2 : Int32)).toNatClampNeg) (xs (a3 + (3 : Int32)).toNatClampNeg) g109) (fun w115 g113 =>
  if (lg_cmp w111 w115) = 0 then (
  fL_law_b1293 n xs r18 a1 a2 a3 g113)
  else (
  some ((0 : Int32), g113)))
  else none)
  else none
  else none
  else none
  else none)
  else (
  if v2 = (24 : Int32) then
  (if ix (a3 + (1 : Int32)) n then
  if ix (a3 + (2 : Int32)) n then
  if kc h a1 = 6 then
  bd (fX6_of a1 (xs (a3 + (1 : Int32)).toNatClampNeg) (xs (a3 + (2 : Int32)).toNatClampNeg) h) (fun w100 g98 =>
  if kc g98 a2 = 7 then
  bd (fX7_of a2 (xs (a3 + (1 : Int32)).toNatClampNeg) (xs (a3 + (2 : Int32)).toNatClampNeg) g98) (fun w104 g102 =>
  if w100 = w104 then (
  fL_law_b1293 n xs r18 a1 a2 a3 g102)
  else (
  some ((0 : Int32), g102)))
  else none)
  else none
  else none
  else none)
  else (
  if v2 = (25 : Int32) then
  (if ix (a3 + (1 : Int32)) n then
  if ix (a3 + (2 : Int32)) n then
  if kc h a1 = 6 then
  bd (fX6_least a1 (xs (a3 + (1 : Int32)).toNatClampNeg) (xs (a3 + (2 : Int32)).toNatClampNeg) h) (fun w90 g88 =>
  if kc g88 a2 = 7 then
  bd (fX7_least a2 (xs (a3 + (1 : Int32)).toNatClampNeg) (xs (a3 + (2 : Int32)).toNatClampNeg) g88) (fun w94 g92 =>
  if w90 = w94 then (
  fL_law_b1293 n xs r18 a1 a2 a3 g92)
  else (
  some ((0 : Int32), g92)))
  else none)
  else none
  else none
  else none)
  else (
  if v2 = (26 : Int32) then
  (if ix (a3 + (1 : Int32)) n then
  if ix (a3 + (2 : Int32)) n then
  if ix (a3 + (3 : Int32)) n then
  if kc h a1 = 6 then
  bd (fX6_slope a1 (xs (a3 + (1 : Int32)).toNatClampNeg) (xs (a3 + (2 : Int32)).toNatClampNeg) (xs (a3 + (3 : Int32)).toNatClampNeg) h) (fun w80 g78 =>
  if kc g78 a2 = 7 then
  bd (fX7_slope a2 (xs (a3 + (1 : Int32)).toNatClampNeg) (xs (a3 + (2 : Int32)).toNatClampNeg) (xs (a3 + (3 : Int32)).toNatClampNeg) g78) (fun w84 g82 =>
  if (lg_cmp w80 w84) = 0 then (
  fL_law_b1293 n xs r18 a1 a2 a3 g82)
  else (
  some ((0 : Int32), g82)))
  else none)
  else none
  else none
  else none
  else none)
  else (
  if v2 = (27 : Int32) then
  (if ix (a3 + (1 : Int32)) n then
  if ix (a3 + (2 : Int32)) n then
  if kc h a1 = 6 then
  bd (fX6_area a1 (xs (a3 + (1 : Int32)).toNatClampNeg) (xs (a3 + (2 : Int32)).toNatClampNeg) h) (fun w69 g67 =>
  if kc g67 a2 = 7 then
  bd (fX7_area a2 (xs (a3 + (1 : Int32)).toNatClampNeg) (xs (a3 + (2 : Int32)).toNatClampNeg) g67) (fun w73 g71 =>
  if (lg_cmp w69 w73) = 0 then (
  fL_law_b1293 n xs r18 a1 a2 a3 g71)
  else (
  some ((0 : Int32), g71)))
  else none)
  else none
  else none
  else none)
  else (
  if v2 = (28 : Int32) then
  (if ix (a3 + (1 : Int32)) n then
  if ix (a3 + (2 : Int32)) n then
  if ix (a3 + (3 : Int32)) n then
  if kc h a1 = 6 then
  bd (fX6_where a1 (xs (a3 + (1 : Int32)).toNatClampNeg) (xs (a3 + (2 : Int32)).toNatClampNeg) (xs (a3 + (3 : Int32)).toNatClampNeg) h) (fun w59 g57 =>
  if kc g57 a2 = 7 then
  bd (fX7_where a2 (xs (a3 + (1 : Int32)).toNatClampNeg) (xs (a3 + (2 : Int32)).toNatClampNeg) (xs (a3 + (3 : Int32)).toNatClampNeg) g57) (fun w63 g61 =>
  if (lg_cmp w59 w63) = 0 then (
  fL_law_b1293 n xs r18 a1 a2 a3 g61)
  else (
  some ((0 : Int32), g61)))
  else none)
  else none
  else none
  else none
  else none)
  else (
  if v2 = (29 : Int32) then
  (if ix (a3 + (1 : Int32)) n then
  if ix (a3 + (2 : Int32)) n then
  if ix (a3 + (3 : Int32)) n then
  if kc h a1 = 6 then
  bd (fX6_places a1 (xs (a3 + (1 : Int32)).toNatClampNeg) (xs (a3 + (2 : Int32)).toNatClampNeg) (xs (a3 + (3 : Int32)).toNatClampNeg) h) (fun w48 g46 =>
  if kc g46 a2 = 7 then
  bd (fX7_places a2 (xs (a3 + (1 : Int32)).toNatClampNeg) (xs (a3 + (2 : Int32)).toNatClampNeg) (xs (a3 + (3 : Int32)).toNatClampNeg) g46) (fun w52 g50 =>
  if w48 = w52 then (
  fL_law_b1293 n xs r18 a1 a2 a3 g50)
  else (
  some ((0 : Int32), g50)))
  else none)
  else none
  else none
  else none
  else none)
  else (
  if v2 = (30 : Int32) then
  (if ix (a3 + (1 : Int32)) n then
  if ix (a3 + (2 : Int32)) n then
  if ix (a3 + (3 : Int32)) n then
  if ix (a3 + (4 : Int32)) n then
  if kc h a1 = 6 then
  bd (fX6_split a1 (xs (a3 + (1 : Int32)).toNatClampNeg) (xs (a3 + (2 : Int32)).toNatClampNeg) (xs (a3 + (3 : Int32)).toNatClampNeg) (xs (a3 + (4 : Int32)).toNatClampNeg) h) (fun w37 g35 =>
  if kc g35 a2 = 7 then
  bd (fX7_split a2 (xs (a3 + (1 : Int32)).toNatClampNeg) (xs (a3 + (2 : Int32)).toNatClampNeg) (xs (a3 + (3 : Int32)).toNatClampNeg) (xs (a3 + (4 : Int32)).toNatClampNeg) g35) (fun w41 g39 =>
  if (lg_cmp w37 w41) = 0 then (
  fL_law_b1293 n xs r18 a1 a2 a3 g39)
  else (
  some ((0 : Int32), g39)))
  else none)
  else none
  else none
  else none
  else none
  else none)
  else (
  if v2 = (31 : Int32) then
  (if ix (a3 + (1 : Int32)) n then
  if ix (a3 + (2 : Int32)) n then
  if kc h a1 = 6 then
  bd (fX6_compare a1 (xs (a3 + (1 : Int32)).toNatClampNeg) (xs (a3 + (2 : Int32)).toNatClampNeg) h) (fun w25 g23 =>
  if kc g23 a2 = 7 then
  bd (fX7_compare a2 (xs (a3 + (1 : Int32)).toNatClampNeg) (xs (a3 + (2 : Int32)).toNatClampNeg) g23) (fun w29 g27 =>
  if w25 = w29 then (
  fL_law_b1293 n xs r18 a1 a2 a3 g27)
  else (
  some ((0 : Int32), g27)))
  else none)
  else none
  else none
  else none)
  else (
  if v2 = (32 : Int32) then
  (if ix (a3 + (1 : Int32)) n then
  if kc h a1 = 6 then
  bd (fX6_count a1 (xs (a3 + (1 : Int32)).toNatClampNeg) h) (fun w15 g13 =>
  if kc g13 a2 = 7 then
  bd (fX7_count a2 (xs (a3 + (1 : Int32)).toNatClampNeg) g13) (fun w19 g17 =>
  if w15 = w19 then (
  fL_law_b1293 n xs r18 a1 a2 a3 g17)
  else (
  some ((0 : Int32), g17)))
  else none)
  else none
  else none)
  else (
  if v2 = (33 : Int32) then
  (if kc h a1 = 6 then
  bd (fX6_status a1 h) (fun w6 g4 =>
  if kc g4 a2 = 7 then
  bd (fX7_status a2 g4) (fun w10 g8 =>
  if w6 = w10 then (
  fL_law_b1293 n xs r18 a1 a2 a3 g8)
  else (
  some ((0 : Int32), g8)))
  else none)
  else none)
  else (
  (fL_law_b1293 n xs r18 a1 a2 a3 h))))))))))))))))))))))))))))))))))))
  else none)
def fL_law_l18 (n : Nat) (xs : Nat → Int32)  : Nat → Nat → Nat → Int32 → xH → Option (Int32 × xH)
  | 0 => fun _ _ _ _ => none
  | k + 1 => fL_law_b18 n xs (fL_law_l18 n xs  k)
def fL_law (n : Nat) (xs : Nat → Int32)   (h : xH) : Option (Int32 × xH) :=
  lt (hnx h) (fun q2 => lt (hnew h 6 0) (fun g1 =>
  bd (fX6_init q2 g1) (fun _ g5 =>
  lt (hnx g5) (fun q8 => lt (hnew g5 7 0) (fun g7 =>
  bd (fX7_init q8 g7) (fun _ g11 =>
  lt (0 : Int32) (fun v13 =>
  fL_law_l18 n xs FU q2 q8 v13 g11)))))))
theorem pL_law_b1293 (n : Nat) (xs : Nat → Int32) {h0 : xH} {r18 : Nat → Nat → Int32 → xH → Option (Int32 × xH)} (hr18 : ∀  (a1 : Nat) (a2 : Nat) (a3 : Int32) (g : xH), S emI (kL_law n xs) h0 18 [(0, .ref 1), (1, .ref a1), (2, .ref a2), (3, .int a3)] [] g (r18  a1 a2 a3 g))  (a1 : Nat) (a2 : Nat) (a3 : Int32) (h : xH) : S emI (kL_law n xs) h0 1293 [(0, .ref 1), (1, .ref a1), (2, .ref a2), (3, .int a3)] [] h (fL_law_b1293 n xs r18 a1 a2 a3 h) := by
  unfold fL_law_b1293
  refine s_iinc (pc := 1293) (L' := [(3, .int (a3 + (6 : Int32))), (0, .ref 1), (1, .ref a1), (2, .ref a2)]) (i := 3) (n := 6) 3 rfl rfl (Nat.le_of_ble_eq_true rfl) rfl (show decode cL_law 1293 = .ok (.iinc 3 6, 3) by decide +kernel) ?_
  refine s_nmI0 (e := a3 + (6 : Int32)) (L := fun v1 => [(3, .int v1), (0, .ref 1), (1, .ref a1), (2, .ref a2)]) (fun v1 => ?_)
  refine s_goto (pc := 1296) (off := -1278) 18 (show decode cL_law 1296 = .ok (.goto (-1278), 3) by decide +kernel) (by decide) ?_
  refine S_sub [1, 2, 3, 0] rfl ?_
  exact hr18 a1 a2 v1 h
theorem pL_law_b18 (n : Nat) (xs : Nat → Int32) {h0 : xH} {r18 : Nat → Nat → Int32 → xH → Option (Int32 × xH)} (hr18 : ∀  (a1 : Nat) (a2 : Nat) (a3 : Int32) (g : xH), S emI (kL_law n xs) h0 18 [(0, .ref 1), (1, .ref a1), (2, .ref a2), (3, .int a3)] [] g (r18  a1 a2 a3 g))  (a1 : Nat) (a2 : Nat) (a3 : Int32) (h : xH) : S emI (kL_law n xs) h0 18 [(0, .ref 1), (1, .ref a1), (2, .ref a2), (3, .int a3)] [] h (fL_law_b18 n xs r18 a1 a2 a3 h) := by
  unfold fL_law_b18
  refine s_iload_n (pc := 18) (k0 := 3) (i := 3) rfl 3 rfl (show decode cL_law 18 = .ok (.iload_n 3, 1) by decide +kernel) ?_
  refine s_aload_n (pc := 19) (k0 := 0) (i := 0) rfl 0 rfl (show decode cL_law 19 = .ok (.aload_n 0, 1) by decide +kernel) ?_
  refine s_slen (pc := 20) rfl (show decode cL_law 20 = .ok (.arraylength, 1) by decide +kernel) ?_
  refine s_bipush (pc := 21) (n := 6) (v := (6 : Int32)) (by decide) (show decode cL_law 21 = .ok (.bipush 6, 2) by decide +kernel) ?_
  refine s_isub (pc := 23) (show decode cL_law 23 = .ok (.isub, 1) by decide +kernel) ?_
  refine s_icmp_gt (pc := 24) (off := 1275) 1299 (show decode cL_law 24 = .ok (.if_icmp .gt 1275, 3) by decide +kernel) (by decide) (fun _ => ?_) (fun _ => ?_)
  · refine s_iconst (pc := 1299) (n := 1) (v := (1 : Int32)) (by decide) (show decode cL_law 1299 = .ok (.iconst 1, 1) by decide +kernel) ?_
    exact s_zret (pc := 1300) (by decide) rfl (show decode cL_law 1300 = .ok (.ireturn, 1) by decide +kernel)
  · refine s_aload_n (pc := 27) (k0 := 0) (i := 0) rfl 0 rfl (show decode cL_law 27 = .ok (.aload_n 0, 1) by decide +kernel) ?_
    refine s_iload_n (pc := 28) (k0 := 3) (i := 3) rfl 3 rfl (show decode cL_law 28 = .ok (.iload_n 3, 1) by decide +kernel) ?_
    refine S_gd (fun c1 => ?_)
    refine s_sld (pc := 29) c1 rfl (show decode cL_law 29 = .ok (.iaload, 1) by decide +kernel) ?_
    refine s_bipush (pc := 30) (n := 63) (v := (63 : Int32)) (by decide) (show decode cL_law 30 = .ok (.bipush 63, 2) by decide +kernel) ?_
    refine s_iand (pc := 32) (show decode cL_law 32 = .ok (.iand, 1) by decide +kernel) ?_
    refine s_nmI (fun v2 => ?_)
    refine S_ite (fun e => ?_) (fun ne0 => ?_)
    · refine s_tableIn (pc := 33) (dflt := 1260) (lo := 0) (hi := 33) (offs := #[151, 214, 237, 260, 273, 316, 339, 372, 405, 438, 461, 484, 527, 570, 603, 626, 649, 662, 685, 708, 742, 785, 829, 862, 906, 939, 972, 1016, 1050, 1094, 1137, 1191, 1224, 1247]) (len := 151) (off := 151) 184 (show decode cL_law 33 = .ok (.tableswitch 1260 0 33 #[151, 214, 237, 260, 273, 316, 339, 372, 405, 438, 461, 484, 527, 570, 603, 626, 649, 662, 685, 708, 742, 785, 829, 862, 906, 939, 972, 1016, 1050, 1094, 1137, 1191, 1224, 1247], 151) by decide +kernel) (by rw [e]; decide) (by rw [e]; decide) (by rw [e]; rfl) (by decide) ?_
      refine s_aload_n (pc := 184) (k0 := 1) (i := 1) rfl 1 rfl (show decode cL_law 184 = .ok (.aload_n 1, 1) by decide +kernel) ?_
      refine s_aload_n (pc := 185) (k0 := 0) (i := 0) rfl 0 rfl (show decode cL_law 185 = .ok (.aload_n 0, 1) by decide +kernel) ?_
      refine s_iload_n (pc := 186) (k0 := 3) (i := 3) rfl 3 rfl (show decode cL_law 186 = .ok (.iload_n 3, 1) by decide +kernel) ?_
      refine s_iconst (pc := 187) (n := 1) (v := (1 : Int32)) (by decide) (show decode cL_law 187 = .ok (.iconst 1, 1) by decide +kernel) ?_
      refine s_iadd (pc := 188) (show decode cL_law 188 = .ok (.iadd, 1) by decide +kernel) ?_
      refine S_gd (fun c328 => ?_)
      refine s_sld (pc := 189) c328 rfl (show decode cL_law 189 = .ok (.iaload, 1) by decide +kernel) ?_
      refine s_aload_n (pc := 190) (k0 := 0) (i := 0) rfl 0 rfl (show decode cL_law 190 = .ok (.aload_n 0, 1) by decide +kernel) ?_
      refine s_iload_n (pc := 191) (k0 := 3) (i := 3) rfl 3 rfl (show decode cL_law 191 = .ok (.iload_n 3, 1) by decide +kernel) ?_
      refine s_iconst (pc := 192) (n := 2) (v := (2 : Int32)) (by decide) (show decode cL_law 192 = .ok (.iconst 2, 1) by decide +kernel) ?_
      refine s_iadd (pc := 193) (show decode cL_law 193 = .ok (.iadd, 1) by decide +kernel) ?_
      refine S_gd (fun c329 => ?_)
      refine s_sld (pc := 194) c329 rfl (show decode cL_law 194 = .ok (.iaload, 1) by decide +kernel) ?_
      refine s_aload_n (pc := 195) (k0 := 0) (i := 0) rfl 0 rfl (show decode cL_law 195 = .ok (.aload_n 0, 1) by decide +kernel) ?_
      refine s_iload_n (pc := 196) (k0 := 3) (i := 3) rfl 3 rfl (show decode cL_law 196 = .ok (.iload_n 3, 1) by decide +kernel) ?_
      refine s_iconst (pc := 197) (n := 3) (v := (3 : Int32)) (by decide) (show decode cL_law 197 = .ok (.iconst 3, 1) by decide +kernel) ?_
      refine s_iadd (pc := 198) (show decode cL_law 198 = .ok (.iadd, 1) by decide +kernel) ?_
      refine S_gd (fun c330 => ?_)
      refine s_sld (pc := 199) c330 rfl (show decode cL_law 199 = .ok (.iaload, 1) by decide +kernel) ?_
      refine s_aload_n (pc := 200) (k0 := 0) (i := 0) rfl 0 rfl (show decode cL_law 200 = .ok (.aload_n 0, 1) by decide +kernel) ?_
      refine s_iload_n (pc := 201) (k0 := 3) (i := 3) rfl 3 rfl (show decode cL_law 201 = .ok (.iload_n 3, 1) by decide +kernel) ?_
      refine s_iconst (pc := 202) (n := 4) (v := (4 : Int32)) (by decide) (show decode cL_law 202 = .ok (.iconst 4, 1) by decide +kernel) ?_
      refine s_iadd (pc := 203) (show decode cL_law 203 = .ok (.iadd, 1) by decide +kernel) ?_
      refine S_gd (fun c331 => ?_)
      refine s_sld (pc := 204) c331 rfl (show decode cL_law 204 = .ok (.iaload, 1) by decide +kernel) ?_
      refine s_aload_n (pc := 205) (k0 := 0) (i := 0) rfl 0 rfl (show decode cL_law 205 = .ok (.aload_n 0, 1) by decide +kernel) ?_
      refine s_iload_n (pc := 206) (k0 := 3) (i := 3) rfl 3 rfl (show decode cL_law 206 = .ok (.iload_n 3, 1) by decide +kernel) ?_
      refine s_iconst (pc := 207) (n := 5) (v := (5 : Int32)) (by decide) (show decode cL_law 207 = .ok (.iconst 5, 1) by decide +kernel) ?_
      refine s_iadd (pc := 208) (show decode cL_law 208 = .ok (.iadd, 1) by decide +kernel) ?_
      refine S_gd (fun c332 => ?_)
      refine s_sld (pc := 209) c332 rfl (show decode cL_law 209 = .ok (.iaload, 1) by decide +kernel) ?_
      refine S_gd (fun c333 => ?_)
      refine s_cVi (pc := 210) [.int (xs (a3 + (1 : Int32)).toNatClampNeg), .int (xs (a3 + (2 : Int32)).toNatClampNeg), .int (xs (a3 + (3 : Int32)).toNatClampNeg), .int (xs (a3 + (4 : Int32)).toNatClampNeg), .int (xs (a3 + (5 : Int32)).toNatClampNeg)] (tX6_feed a1 (xs (a3 + (1 : Int32)).toNatClampNeg) (xs (a3 + (2 : Int32)).toNatClampNeg) (xs (a3 + (3 : Int32)).toNatClampNeg) (xs (a3 + (4 : Int32)).toNatClampNeg) (xs (a3 + (5 : Int32)).toNatClampNeg) h) c333 cw_L_13 rfl ⟨⟨Nat.le_of_ble_eq_true rfl, Nat.le_of_ble_eq_true rfl⟩, Nat.le_of_ble_eq_true rfl⟩ rfl (show decode cL_law 210 = .ok (.invokevirtual 13, 3) by decide +kernel) (fun w336 g334 e335 => ?_)
      refine s_aload_n (pc := 213) (k0 := 2) (i := 2) rfl 2 rfl (show decode cL_law 213 = .ok (.aload_n 2, 1) by decide +kernel) ?_
      refine s_aload_n (pc := 214) (k0 := 0) (i := 0) rfl 0 rfl (show decode cL_law 214 = .ok (.aload_n 0, 1) by decide +kernel) ?_
      refine s_iload_n (pc := 215) (k0 := 3) (i := 3) rfl 3 rfl (show decode cL_law 215 = .ok (.iload_n 3, 1) by decide +kernel) ?_
      refine s_iconst (pc := 216) (n := 1) (v := (1 : Int32)) (by decide) (show decode cL_law 216 = .ok (.iconst 1, 1) by decide +kernel) ?_
      refine s_iadd (pc := 217) (show decode cL_law 217 = .ok (.iadd, 1) by decide +kernel) ?_
      refine s_sld (pc := 218) c328 rfl (show decode cL_law 218 = .ok (.iaload, 1) by decide +kernel) ?_
      refine s_aload_n (pc := 219) (k0 := 0) (i := 0) rfl 0 rfl (show decode cL_law 219 = .ok (.aload_n 0, 1) by decide +kernel) ?_
      refine s_iload_n (pc := 220) (k0 := 3) (i := 3) rfl 3 rfl (show decode cL_law 220 = .ok (.iload_n 3, 1) by decide +kernel) ?_
      refine s_iconst (pc := 221) (n := 2) (v := (2 : Int32)) (by decide) (show decode cL_law 221 = .ok (.iconst 2, 1) by decide +kernel) ?_
      refine s_iadd (pc := 222) (show decode cL_law 222 = .ok (.iadd, 1) by decide +kernel) ?_
      refine s_sld (pc := 223) c329 rfl (show decode cL_law 223 = .ok (.iaload, 1) by decide +kernel) ?_
      refine s_aload_n (pc := 224) (k0 := 0) (i := 0) rfl 0 rfl (show decode cL_law 224 = .ok (.aload_n 0, 1) by decide +kernel) ?_
      refine s_iload_n (pc := 225) (k0 := 3) (i := 3) rfl 3 rfl (show decode cL_law 225 = .ok (.iload_n 3, 1) by decide +kernel) ?_
      refine s_iconst (pc := 226) (n := 3) (v := (3 : Int32)) (by decide) (show decode cL_law 226 = .ok (.iconst 3, 1) by decide +kernel) ?_
      refine s_iadd (pc := 227) (show decode cL_law 227 = .ok (.iadd, 1) by decide +kernel) ?_
      refine s_sld (pc := 228) c330 rfl (show decode cL_law 228 = .ok (.iaload, 1) by decide +kernel) ?_
      refine s_aload_n (pc := 229) (k0 := 0) (i := 0) rfl 0 rfl (show decode cL_law 229 = .ok (.aload_n 0, 1) by decide +kernel) ?_
      refine s_iload_n (pc := 230) (k0 := 3) (i := 3) rfl 3 rfl (show decode cL_law 230 = .ok (.iload_n 3, 1) by decide +kernel) ?_
      refine s_iconst (pc := 231) (n := 4) (v := (4 : Int32)) (by decide) (show decode cL_law 231 = .ok (.iconst 4, 1) by decide +kernel) ?_
      refine s_iadd (pc := 232) (show decode cL_law 232 = .ok (.iadd, 1) by decide +kernel) ?_
      refine s_sld (pc := 233) c331 rfl (show decode cL_law 233 = .ok (.iaload, 1) by decide +kernel) ?_
      refine s_aload_n (pc := 234) (k0 := 0) (i := 0) rfl 0 rfl (show decode cL_law 234 = .ok (.aload_n 0, 1) by decide +kernel) ?_
      refine s_iload_n (pc := 235) (k0 := 3) (i := 3) rfl 3 rfl (show decode cL_law 235 = .ok (.iload_n 3, 1) by decide +kernel) ?_
      refine s_iconst (pc := 236) (n := 5) (v := (5 : Int32)) (by decide) (show decode cL_law 236 = .ok (.iconst 5, 1) by decide +kernel) ?_
      refine s_iadd (pc := 237) (show decode cL_law 237 = .ok (.iadd, 1) by decide +kernel) ?_
      refine s_sld (pc := 238) c332 rfl (show decode cL_law 238 = .ok (.iaload, 1) by decide +kernel) ?_
      refine S_gd (fun c337 => ?_)
      refine s_cVi (pc := 239) [.int (xs (a3 + (1 : Int32)).toNatClampNeg), .int (xs (a3 + (2 : Int32)).toNatClampNeg), .int (xs (a3 + (3 : Int32)).toNatClampNeg), .int (xs (a3 + (4 : Int32)).toNatClampNeg), .int (xs (a3 + (5 : Int32)).toNatClampNeg)] (tX7_feed a2 (xs (a3 + (1 : Int32)).toNatClampNeg) (xs (a3 + (2 : Int32)).toNatClampNeg) (xs (a3 + (3 : Int32)).toNatClampNeg) (xs (a3 + (4 : Int32)).toNatClampNeg) (xs (a3 + (5 : Int32)).toNatClampNeg) g334) c337 cw_L_17 rfl ⟨⟨Nat.le_of_ble_eq_true rfl, Nat.le_of_ble_eq_true rfl⟩, Nat.le_of_ble_eq_true rfl⟩ rfl (show decode cL_law 239 = .ok (.invokevirtual 17, 3) by decide +kernel) (fun w340 g338 e339 => ?_)
      refine s_icmp_eq (pc := 242) (off := 1051) 1293 (show decode cL_law 242 = .ok (.if_icmp .eq 1051, 3) by decide +kernel) (by decide) (fun _ => ?_) (fun _ => ?_)
      · exact pL_law_b1293 n xs hr18 a1 a2 a3 g338
      · refine s_iconst (pc := 245) (n := 0) (v := (0 : Int32)) (by decide) (show decode cL_law 245 = .ok (.iconst 0, 1) by decide +kernel) ?_
        exact s_zret (pc := 246) (by decide) rfl (show decode cL_law 246 = .ok (.ireturn, 1) by decide +kernel)
    · refine S_ite (fun e => ?_) (fun ne1 => ?_)
      · refine s_tableIn (pc := 33) (dflt := 1260) (lo := 0) (hi := 33) (offs := #[151, 214, 237, 260, 273, 316, 339, 372, 405, 438, 461, 484, 527, 570, 603, 626, 649, 662, 685, 708, 742, 785, 829, 862, 906, 939, 972, 1016, 1050, 1094, 1137, 1191, 1224, 1247]) (len := 151) (off := 214) 247 (show decode cL_law 33 = .ok (.tableswitch 1260 0 33 #[151, 214, 237, 260, 273, 316, 339, 372, 405, 438, 461, 484, 527, 570, 603, 626, 649, 662, 685, 708, 742, 785, 829, 862, 906, 939, 972, 1016, 1050, 1094, 1137, 1191, 1224, 1247], 151) by decide +kernel) (by rw [e]; decide) (by rw [e]; decide) (by rw [e]; rfl) (by decide) ?_
        refine s_aload_n (pc := 247) (k0 := 1) (i := 1) rfl 1 rfl (show decode cL_law 247 = .ok (.aload_n 1, 1) by decide +kernel) ?_
        refine s_aload_n (pc := 248) (k0 := 0) (i := 0) rfl 0 rfl (show decode cL_law 248 = .ok (.aload_n 0, 1) by decide +kernel) ?_
        refine s_iload_n (pc := 249) (k0 := 3) (i := 3) rfl 3 rfl (show decode cL_law 249 = .ok (.iload_n 3, 1) by decide +kernel) ?_
        refine s_iconst (pc := 250) (n := 1) (v := (1 : Int32)) (by decide) (show decode cL_law 250 = .ok (.iconst 1, 1) by decide +kernel) ?_
        refine s_iadd (pc := 251) (show decode cL_law 251 = .ok (.iadd, 1) by decide +kernel) ?_
        refine S_gd (fun c319 => ?_)
        refine s_sld (pc := 252) c319 rfl (show decode cL_law 252 = .ok (.iaload, 1) by decide +kernel) ?_
        refine S_gd (fun c320 => ?_)
        refine s_cVi (pc := 253) [.int (xs (a3 + (1 : Int32)).toNatClampNeg)] (tX6_end a1 (xs (a3 + (1 : Int32)).toNatClampNeg) h) c320 cw_L_18 rfl ⟨⟨Nat.le_of_ble_eq_true rfl, Nat.le_of_ble_eq_true rfl⟩, Nat.le_of_ble_eq_true rfl⟩ rfl (show decode cL_law 253 = .ok (.invokevirtual 18, 3) by decide +kernel) (fun w323 g321 e322 => ?_)
        refine s_aload_n (pc := 256) (k0 := 2) (i := 2) rfl 2 rfl (show decode cL_law 256 = .ok (.aload_n 2, 1) by decide +kernel) ?_
        refine s_aload_n (pc := 257) (k0 := 0) (i := 0) rfl 0 rfl (show decode cL_law 257 = .ok (.aload_n 0, 1) by decide +kernel) ?_
        refine s_iload_n (pc := 258) (k0 := 3) (i := 3) rfl 3 rfl (show decode cL_law 258 = .ok (.iload_n 3, 1) by decide +kernel) ?_
        refine s_iconst (pc := 259) (n := 1) (v := (1 : Int32)) (by decide) (show decode cL_law 259 = .ok (.iconst 1, 1) by decide +kernel) ?_
        refine s_iadd (pc := 260) (show decode cL_law 260 = .ok (.iadd, 1) by decide +kernel) ?_
        refine s_sld (pc := 261) c319 rfl (show decode cL_law 261 = .ok (.iaload, 1) by decide +kernel) ?_
        refine S_gd (fun c324 => ?_)
        refine s_cVi (pc := 262) [.int (xs (a3 + (1 : Int32)).toNatClampNeg)] (tX7_end_ a2 (xs (a3 + (1 : Int32)).toNatClampNeg) g321) c324 cw_L_22 rfl ⟨⟨Nat.le_of_ble_eq_true rfl, Nat.le_of_ble_eq_true rfl⟩, Nat.le_of_ble_eq_true rfl⟩ rfl (show decode cL_law 262 = .ok (.invokevirtual 22, 3) by decide +kernel) (fun w327 g325 e326 => ?_)
        refine s_icmp_eq (pc := 265) (off := 1028) 1293 (show decode cL_law 265 = .ok (.if_icmp .eq 1028, 3) by decide +kernel) (by decide) (fun _ => ?_) (fun _ => ?_)
        · exact pL_law_b1293 n xs hr18 a1 a2 a3 g325
        · refine s_iconst (pc := 268) (n := 0) (v := (0 : Int32)) (by decide) (show decode cL_law 268 = .ok (.iconst 0, 1) by decide +kernel) ?_
          exact s_zret (pc := 269) (by decide) rfl (show decode cL_law 269 = .ok (.ireturn, 1) by decide +kernel)
      · refine S_ite (fun e => ?_) (fun ne2 => ?_)
        · refine s_tableIn (pc := 33) (dflt := 1260) (lo := 0) (hi := 33) (offs := #[151, 214, 237, 260, 273, 316, 339, 372, 405, 438, 461, 484, 527, 570, 603, 626, 649, 662, 685, 708, 742, 785, 829, 862, 906, 939, 972, 1016, 1050, 1094, 1137, 1191, 1224, 1247]) (len := 151) (off := 237) 270 (show decode cL_law 33 = .ok (.tableswitch 1260 0 33 #[151, 214, 237, 260, 273, 316, 339, 372, 405, 438, 461, 484, 527, 570, 603, 626, 649, 662, 685, 708, 742, 785, 829, 862, 906, 939, 972, 1016, 1050, 1094, 1137, 1191, 1224, 1247], 151) by decide +kernel) (by rw [e]; decide) (by rw [e]; decide) (by rw [e]; rfl) (by decide) ?_
          refine s_aload_n (pc := 270) (k0 := 1) (i := 1) rfl 1 rfl (show decode cL_law 270 = .ok (.aload_n 1, 1) by decide +kernel) ?_
          refine s_aload_n (pc := 271) (k0 := 0) (i := 0) rfl 0 rfl (show decode cL_law 271 = .ok (.aload_n 0, 1) by decide +kernel) ?_
          refine s_iload_n (pc := 272) (k0 := 3) (i := 3) rfl 3 rfl (show decode cL_law 272 = .ok (.iload_n 3, 1) by decide +kernel) ?_
          refine s_iconst (pc := 273) (n := 1) (v := (1 : Int32)) (by decide) (show decode cL_law 273 = .ok (.iconst 1, 1) by decide +kernel) ?_
          refine s_iadd (pc := 274) (show decode cL_law 274 = .ok (.iadd, 1) by decide +kernel) ?_
          refine S_gd (fun c310 => ?_)
          refine s_sld (pc := 275) c310 rfl (show decode cL_law 275 = .ok (.iaload, 1) by decide +kernel) ?_
          refine S_gd (fun c311 => ?_)
          refine s_cVi (pc := 276) [.int (xs (a3 + (1 : Int32)).toNatClampNeg)] (tX6_read a1 (xs (a3 + (1 : Int32)).toNatClampNeg) h) c311 cw_L_23 rfl ⟨⟨Nat.le_of_ble_eq_true rfl, Nat.le_of_ble_eq_true rfl⟩, Nat.le_of_ble_eq_true rfl⟩ rfl (show decode cL_law 276 = .ok (.invokevirtual 23, 3) by decide +kernel) (fun w314 g312 e313 => ?_)
          refine s_aload_n (pc := 279) (k0 := 2) (i := 2) rfl 2 rfl (show decode cL_law 279 = .ok (.aload_n 2, 1) by decide +kernel) ?_
          refine s_aload_n (pc := 280) (k0 := 0) (i := 0) rfl 0 rfl (show decode cL_law 280 = .ok (.aload_n 0, 1) by decide +kernel) ?_
          refine s_iload_n (pc := 281) (k0 := 3) (i := 3) rfl 3 rfl (show decode cL_law 281 = .ok (.iload_n 3, 1) by decide +kernel) ?_
          refine s_iconst (pc := 282) (n := 1) (v := (1 : Int32)) (by decide) (show decode cL_law 282 = .ok (.iconst 1, 1) by decide +kernel) ?_
          refine s_iadd (pc := 283) (show decode cL_law 283 = .ok (.iadd, 1) by decide +kernel) ?_
          refine s_sld (pc := 284) c310 rfl (show decode cL_law 284 = .ok (.iaload, 1) by decide +kernel) ?_
          refine S_gd (fun c315 => ?_)
          refine s_cVi (pc := 285) [.int (xs (a3 + (1 : Int32)).toNatClampNeg)] (tX7_read a2 (xs (a3 + (1 : Int32)).toNatClampNeg) g312) c315 cw_L_26 rfl ⟨⟨Nat.le_of_ble_eq_true rfl, Nat.le_of_ble_eq_true rfl⟩, Nat.le_of_ble_eq_true rfl⟩ rfl (show decode cL_law 285 = .ok (.invokevirtual 26, 3) by decide +kernel) (fun w318 g316 e317 => ?_)
          refine s_icmp_eq (pc := 288) (off := 1005) 1293 (show decode cL_law 288 = .ok (.if_icmp .eq 1005, 3) by decide +kernel) (by decide) (fun _ => ?_) (fun _ => ?_)
          · exact pL_law_b1293 n xs hr18 a1 a2 a3 g316
          · refine s_iconst (pc := 291) (n := 0) (v := (0 : Int32)) (by decide) (show decode cL_law 291 = .ok (.iconst 0, 1) by decide +kernel) ?_
            exact s_zret (pc := 292) (by decide) rfl (show decode cL_law 292 = .ok (.ireturn, 1) by decide +kernel)
        · refine S_ite (fun e => ?_) (fun ne3 => ?_)
          · refine s_tableIn (pc := 33) (dflt := 1260) (lo := 0) (hi := 33) (offs := #[151, 214, 237, 260, 273, 316, 339, 372, 405, 438, 461, 484, 527, 570, 603, 626, 649, 662, 685, 708, 742, 785, 829, 862, 906, 939, 972, 1016, 1050, 1094, 1137, 1191, 1224, 1247]) (len := 151) (off := 260) 293 (show decode cL_law 33 = .ok (.tableswitch 1260 0 33 #[151, 214, 237, 260, 273, 316, 339, 372, 405, 438, 461, 484, 527, 570, 603, 626, 649, 662, 685, 708, 742, 785, 829, 862, 906, 939, 972, 1016, 1050, 1094, 1137, 1191, 1224, 1247], 151) by decide +kernel) (by rw [e]; decide) (by rw [e]; decide) (by rw [e]; rfl) (by decide) ?_
            refine s_aload_n (pc := 293) (k0 := 1) (i := 1) rfl 1 rfl (show decode cL_law 293 = .ok (.aload_n 1, 1) by decide +kernel) ?_
            refine S_gd (fun c302 => ?_)
            refine s_cVi (pc := 294) [] (tX6_fault a1 h) c302 cw_L_27 rfl ⟨⟨Nat.le_of_ble_eq_true rfl, Nat.le_of_ble_eq_true rfl⟩, Nat.le_of_ble_eq_true rfl⟩ rfl (show decode cL_law 294 = .ok (.invokevirtual 27, 3) by decide +kernel) (fun w305 g303 e304 => ?_)
            refine s_aload_n (pc := 297) (k0 := 2) (i := 2) rfl 2 rfl (show decode cL_law 297 = .ok (.aload_n 2, 1) by decide +kernel) ?_
            refine S_gd (fun c306 => ?_)
            refine s_cVi (pc := 298) [] (tX7_fault a2 g303) c306 cw_L_31 rfl ⟨⟨Nat.le_of_ble_eq_true rfl, Nat.le_of_ble_eq_true rfl⟩, Nat.le_of_ble_eq_true rfl⟩ rfl (show decode cL_law 298 = .ok (.invokevirtual 31, 3) by decide +kernel) (fun w309 g307 e308 => ?_)
            refine s_icmp_eq (pc := 301) (off := 992) 1293 (show decode cL_law 301 = .ok (.if_icmp .eq 992, 3) by decide +kernel) (by decide) (fun _ => ?_) (fun _ => ?_)
            · exact pL_law_b1293 n xs hr18 a1 a2 a3 g307
            · refine s_iconst (pc := 304) (n := 0) (v := (0 : Int32)) (by decide) (show decode cL_law 304 = .ok (.iconst 0, 1) by decide +kernel) ?_
              exact s_zret (pc := 305) (by decide) rfl (show decode cL_law 305 = .ok (.ireturn, 1) by decide +kernel)
          · refine S_ite (fun e => ?_) (fun ne4 => ?_)
            · refine s_tableIn (pc := 33) (dflt := 1260) (lo := 0) (hi := 33) (offs := #[151, 214, 237, 260, 273, 316, 339, 372, 405, 438, 461, 484, 527, 570, 603, 626, 649, 662, 685, 708, 742, 785, 829, 862, 906, 939, 972, 1016, 1050, 1094, 1137, 1191, 1224, 1247]) (len := 151) (off := 273) 306 (show decode cL_law 33 = .ok (.tableswitch 1260 0 33 #[151, 214, 237, 260, 273, 316, 339, 372, 405, 438, 461, 484, 527, 570, 603, 626, 649, 662, 685, 708, 742, 785, 829, 862, 906, 939, 972, 1016, 1050, 1094, 1137, 1191, 1224, 1247], 151) by decide +kernel) (by rw [e]; decide) (by rw [e]; decide) (by rw [e]; rfl) (by decide) ?_
              refine s_aload_n (pc := 306) (k0 := 1) (i := 1) rfl 1 rfl (show decode cL_law 306 = .ok (.aload_n 1, 1) by decide +kernel) ?_
              refine s_aload_n (pc := 307) (k0 := 0) (i := 0) rfl 0 rfl (show decode cL_law 307 = .ok (.aload_n 0, 1) by decide +kernel) ?_
              refine s_iload_n (pc := 308) (k0 := 3) (i := 3) rfl 3 rfl (show decode cL_law 308 = .ok (.iload_n 3, 1) by decide +kernel) ?_
              refine s_iconst (pc := 309) (n := 1) (v := (1 : Int32)) (by decide) (show decode cL_law 309 = .ok (.iconst 1, 1) by decide +kernel) ?_
              refine s_iadd (pc := 310) (show decode cL_law 310 = .ok (.iadd, 1) by decide +kernel) ?_
              refine S_gd (fun c291 => ?_)
              refine s_sld (pc := 311) c291 rfl (show decode cL_law 311 = .ok (.iaload, 1) by decide +kernel) ?_
              refine s_aload_n (pc := 312) (k0 := 0) (i := 0) rfl 0 rfl (show decode cL_law 312 = .ok (.aload_n 0, 1) by decide +kernel) ?_
              refine s_iload_n (pc := 313) (k0 := 3) (i := 3) rfl 3 rfl (show decode cL_law 313 = .ok (.iload_n 3, 1) by decide +kernel) ?_
              refine s_iconst (pc := 314) (n := 2) (v := (2 : Int32)) (by decide) (show decode cL_law 314 = .ok (.iconst 2, 1) by decide +kernel) ?_
              refine s_iadd (pc := 315) (show decode cL_law 315 = .ok (.iadd, 1) by decide +kernel) ?_
              refine S_gd (fun c292 => ?_)
              refine s_sld (pc := 316) c292 rfl (show decode cL_law 316 = .ok (.iaload, 1) by decide +kernel) ?_
              refine s_aload_n (pc := 317) (k0 := 0) (i := 0) rfl 0 rfl (show decode cL_law 317 = .ok (.aload_n 0, 1) by decide +kernel) ?_
              refine s_iload_n (pc := 318) (k0 := 3) (i := 3) rfl 3 rfl (show decode cL_law 318 = .ok (.iload_n 3, 1) by decide +kernel) ?_
              refine s_iconst (pc := 319) (n := 3) (v := (3 : Int32)) (by decide) (show decode cL_law 319 = .ok (.iconst 3, 1) by decide +kernel) ?_
              refine s_iadd (pc := 320) (show decode cL_law 320 = .ok (.iadd, 1) by decide +kernel) ?_
              refine S_gd (fun c293 => ?_)
              refine s_sld (pc := 321) c293 rfl (show decode cL_law 321 = .ok (.iaload, 1) by decide +kernel) ?_
              refine S_gd (fun c294 => ?_)
              refine s_cVi (pc := 322) [.int (xs (a3 + (1 : Int32)).toNatClampNeg), .int (xs (a3 + (2 : Int32)).toNatClampNeg), .int (xs (a3 + (3 : Int32)).toNatClampNeg)] (tX6_dot a1 (xs (a3 + (1 : Int32)).toNatClampNeg) (xs (a3 + (2 : Int32)).toNatClampNeg) (xs (a3 + (3 : Int32)).toNatClampNeg) h) c294 cw_L_32 rfl ⟨⟨Nat.le_of_ble_eq_true rfl, Nat.le_of_ble_eq_true rfl⟩, Nat.le_of_ble_eq_true rfl⟩ rfl (show decode cL_law 322 = .ok (.invokevirtual 32, 3) by decide +kernel) (fun w297 g295 e296 => ?_)
              refine s_aload_n (pc := 325) (k0 := 2) (i := 2) rfl 2 rfl (show decode cL_law 325 = .ok (.aload_n 2, 1) by decide +kernel) ?_
              refine s_aload_n (pc := 326) (k0 := 0) (i := 0) rfl 0 rfl (show decode cL_law 326 = .ok (.aload_n 0, 1) by decide +kernel) ?_
              refine s_iload_n (pc := 327) (k0 := 3) (i := 3) rfl 3 rfl (show decode cL_law 327 = .ok (.iload_n 3, 1) by decide +kernel) ?_
              refine s_iconst (pc := 328) (n := 1) (v := (1 : Int32)) (by decide) (show decode cL_law 328 = .ok (.iconst 1, 1) by decide +kernel) ?_
              refine s_iadd (pc := 329) (show decode cL_law 329 = .ok (.iadd, 1) by decide +kernel) ?_
              refine s_sld (pc := 330) c291 rfl (show decode cL_law 330 = .ok (.iaload, 1) by decide +kernel) ?_
              refine s_aload_n (pc := 331) (k0 := 0) (i := 0) rfl 0 rfl (show decode cL_law 331 = .ok (.aload_n 0, 1) by decide +kernel) ?_
              refine s_iload_n (pc := 332) (k0 := 3) (i := 3) rfl 3 rfl (show decode cL_law 332 = .ok (.iload_n 3, 1) by decide +kernel) ?_
              refine s_iconst (pc := 333) (n := 2) (v := (2 : Int32)) (by decide) (show decode cL_law 333 = .ok (.iconst 2, 1) by decide +kernel) ?_
              refine s_iadd (pc := 334) (show decode cL_law 334 = .ok (.iadd, 1) by decide +kernel) ?_
              refine s_sld (pc := 335) c292 rfl (show decode cL_law 335 = .ok (.iaload, 1) by decide +kernel) ?_
              refine s_aload_n (pc := 336) (k0 := 0) (i := 0) rfl 0 rfl (show decode cL_law 336 = .ok (.aload_n 0, 1) by decide +kernel) ?_
              refine s_iload_n (pc := 337) (k0 := 3) (i := 3) rfl 3 rfl (show decode cL_law 337 = .ok (.iload_n 3, 1) by decide +kernel) ?_
              refine s_iconst (pc := 338) (n := 3) (v := (3 : Int32)) (by decide) (show decode cL_law 338 = .ok (.iconst 3, 1) by decide +kernel) ?_
              refine s_iadd (pc := 339) (show decode cL_law 339 = .ok (.iadd, 1) by decide +kernel) ?_
              refine s_sld (pc := 340) c293 rfl (show decode cL_law 340 = .ok (.iaload, 1) by decide +kernel) ?_
              refine S_gd (fun c298 => ?_)
              refine s_cVi (pc := 341) [.int (xs (a3 + (1 : Int32)).toNatClampNeg), .int (xs (a3 + (2 : Int32)).toNatClampNeg), .int (xs (a3 + (3 : Int32)).toNatClampNeg)] (tX7_dot a2 (xs (a3 + (1 : Int32)).toNatClampNeg) (xs (a3 + (2 : Int32)).toNatClampNeg) (xs (a3 + (3 : Int32)).toNatClampNeg) g295) c298 cw_L_36 rfl ⟨⟨Nat.le_of_ble_eq_true rfl, Nat.le_of_ble_eq_true rfl⟩, Nat.le_of_ble_eq_true rfl⟩ rfl (show decode cL_law 341 = .ok (.invokevirtual 36, 3) by decide +kernel) (fun w301 g299 e300 => ?_)
              refine s_icmp_eq (pc := 344) (off := 949) 1293 (show decode cL_law 344 = .ok (.if_icmp .eq 949, 3) by decide +kernel) (by decide) (fun _ => ?_) (fun _ => ?_)
              · exact pL_law_b1293 n xs hr18 a1 a2 a3 g299
              · refine s_iconst (pc := 347) (n := 0) (v := (0 : Int32)) (by decide) (show decode cL_law 347 = .ok (.iconst 0, 1) by decide +kernel) ?_
                exact s_zret (pc := 348) (by decide) rfl (show decode cL_law 348 = .ok (.ireturn, 1) by decide +kernel)
            · refine S_ite (fun e => ?_) (fun ne5 => ?_)
              · refine s_tableIn (pc := 33) (dflt := 1260) (lo := 0) (hi := 33) (offs := #[151, 214, 237, 260, 273, 316, 339, 372, 405, 438, 461, 484, 527, 570, 603, 626, 649, 662, 685, 708, 742, 785, 829, 862, 906, 939, 972, 1016, 1050, 1094, 1137, 1191, 1224, 1247]) (len := 151) (off := 316) 349 (show decode cL_law 33 = .ok (.tableswitch 1260 0 33 #[151, 214, 237, 260, 273, 316, 339, 372, 405, 438, 461, 484, 527, 570, 603, 626, 649, 662, 685, 708, 742, 785, 829, 862, 906, 939, 972, 1016, 1050, 1094, 1137, 1191, 1224, 1247], 151) by decide +kernel) (by rw [e]; decide) (by rw [e]; decide) (by rw [e]; rfl) (by decide) ?_
                refine s_aload_n (pc := 349) (k0 := 1) (i := 1) rfl 1 rfl (show decode cL_law 349 = .ok (.aload_n 1, 1) by decide +kernel) ?_
                refine s_aload_n (pc := 350) (k0 := 0) (i := 0) rfl 0 rfl (show decode cL_law 350 = .ok (.aload_n 0, 1) by decide +kernel) ?_
                refine s_iload_n (pc := 351) (k0 := 3) (i := 3) rfl 3 rfl (show decode cL_law 351 = .ok (.iload_n 3, 1) by decide +kernel) ?_
                refine s_iconst (pc := 352) (n := 1) (v := (1 : Int32)) (by decide) (show decode cL_law 352 = .ok (.iconst 1, 1) by decide +kernel) ?_
                refine s_iadd (pc := 353) (show decode cL_law 353 = .ok (.iadd, 1) by decide +kernel) ?_
                refine S_gd (fun c282 => ?_)
                refine s_sld (pc := 354) c282 rfl (show decode cL_law 354 = .ok (.iaload, 1) by decide +kernel) ?_
                refine S_gd (fun c283 => ?_)
                refine s_cVi (pc := 355) [.int (xs (a3 + (1 : Int32)).toNatClampNeg)] (tX6_clear a1 (xs (a3 + (1 : Int32)).toNatClampNeg) h) c283 cw_L_37 rfl ⟨⟨Nat.le_of_ble_eq_true rfl, Nat.le_of_ble_eq_true rfl⟩, Nat.le_of_ble_eq_true rfl⟩ rfl (show decode cL_law 355 = .ok (.invokevirtual 37, 3) by decide +kernel) (fun w286 g284 e285 => ?_)
                refine s_aload_n (pc := 358) (k0 := 2) (i := 2) rfl 2 rfl (show decode cL_law 358 = .ok (.aload_n 2, 1) by decide +kernel) ?_
                refine s_aload_n (pc := 359) (k0 := 0) (i := 0) rfl 0 rfl (show decode cL_law 359 = .ok (.aload_n 0, 1) by decide +kernel) ?_
                refine s_iload_n (pc := 360) (k0 := 3) (i := 3) rfl 3 rfl (show decode cL_law 360 = .ok (.iload_n 3, 1) by decide +kernel) ?_
                refine s_iconst (pc := 361) (n := 1) (v := (1 : Int32)) (by decide) (show decode cL_law 361 = .ok (.iconst 1, 1) by decide +kernel) ?_
                refine s_iadd (pc := 362) (show decode cL_law 362 = .ok (.iadd, 1) by decide +kernel) ?_
                refine s_sld (pc := 363) c282 rfl (show decode cL_law 363 = .ok (.iaload, 1) by decide +kernel) ?_
                refine S_gd (fun c287 => ?_)
                refine s_cVi (pc := 364) [.int (xs (a3 + (1 : Int32)).toNatClampNeg)] (tX7_clear a2 (xs (a3 + (1 : Int32)).toNatClampNeg) g284) c287 cw_L_40 rfl ⟨⟨Nat.le_of_ble_eq_true rfl, Nat.le_of_ble_eq_true rfl⟩, Nat.le_of_ble_eq_true rfl⟩ rfl (show decode cL_law 364 = .ok (.invokevirtual 40, 3) by decide +kernel) (fun w290 g288 e289 => ?_)
                refine s_icmp_eq (pc := 367) (off := 926) 1293 (show decode cL_law 367 = .ok (.if_icmp .eq 926, 3) by decide +kernel) (by decide) (fun _ => ?_) (fun _ => ?_)
                · exact pL_law_b1293 n xs hr18 a1 a2 a3 g288
                · refine s_iconst (pc := 370) (n := 0) (v := (0 : Int32)) (by decide) (show decode cL_law 370 = .ok (.iconst 0, 1) by decide +kernel) ?_
                  exact s_zret (pc := 371) (by decide) rfl (show decode cL_law 371 = .ok (.ireturn, 1) by decide +kernel)
              · refine S_ite (fun e => ?_) (fun ne6 => ?_)
                · refine s_tableIn (pc := 33) (dflt := 1260) (lo := 0) (hi := 33) (offs := #[151, 214, 237, 260, 273, 316, 339, 372, 405, 438, 461, 484, 527, 570, 603, 626, 649, 662, 685, 708, 742, 785, 829, 862, 906, 939, 972, 1016, 1050, 1094, 1137, 1191, 1224, 1247]) (len := 151) (off := 339) 372 (show decode cL_law 33 = .ok (.tableswitch 1260 0 33 #[151, 214, 237, 260, 273, 316, 339, 372, 405, 438, 461, 484, 527, 570, 603, 626, 649, 662, 685, 708, 742, 785, 829, 862, 906, 939, 972, 1016, 1050, 1094, 1137, 1191, 1224, 1247], 151) by decide +kernel) (by rw [e]; decide) (by rw [e]; decide) (by rw [e]; rfl) (by decide) ?_
                  refine s_aload_n (pc := 372) (k0 := 1) (i := 1) rfl 1 rfl (show decode cL_law 372 = .ok (.aload_n 1, 1) by decide +kernel) ?_
                  refine s_aload_n (pc := 373) (k0 := 0) (i := 0) rfl 0 rfl (show decode cL_law 373 = .ok (.aload_n 0, 1) by decide +kernel) ?_
                  refine s_iload_n (pc := 374) (k0 := 3) (i := 3) rfl 3 rfl (show decode cL_law 374 = .ok (.iload_n 3, 1) by decide +kernel) ?_
                  refine s_iconst (pc := 375) (n := 1) (v := (1 : Int32)) (by decide) (show decode cL_law 375 = .ok (.iconst 1, 1) by decide +kernel) ?_
                  refine s_iadd (pc := 376) (show decode cL_law 376 = .ok (.iadd, 1) by decide +kernel) ?_
                  refine S_gd (fun c272 => ?_)
                  refine s_sld (pc := 377) c272 rfl (show decode cL_law 377 = .ok (.iaload, 1) by decide +kernel) ?_
                  refine s_aload_n (pc := 378) (k0 := 0) (i := 0) rfl 0 rfl (show decode cL_law 378 = .ok (.aload_n 0, 1) by decide +kernel) ?_
                  refine s_iload_n (pc := 379) (k0 := 3) (i := 3) rfl 3 rfl (show decode cL_law 379 = .ok (.iload_n 3, 1) by decide +kernel) ?_
                  refine s_iconst (pc := 380) (n := 2) (v := (2 : Int32)) (by decide) (show decode cL_law 380 = .ok (.iconst 2, 1) by decide +kernel) ?_
                  refine s_iadd (pc := 381) (show decode cL_law 381 = .ok (.iadd, 1) by decide +kernel) ?_
                  refine S_gd (fun c273 => ?_)
                  refine s_sld (pc := 382) c273 rfl (show decode cL_law 382 = .ok (.iaload, 1) by decide +kernel) ?_
                  refine S_gd (fun c274 => ?_)
                  refine s_cVi (pc := 383) [.int (xs (a3 + (1 : Int32)).toNatClampNeg), .int (xs (a3 + (2 : Int32)).toNatClampNeg)] (tX6_sum a1 (xs (a3 + (1 : Int32)).toNatClampNeg) (xs (a3 + (2 : Int32)).toNatClampNeg) h) c274 cw_L_41 rfl ⟨⟨Nat.le_of_ble_eq_true rfl, Nat.le_of_ble_eq_true rfl⟩, Nat.le_of_ble_eq_true rfl⟩ rfl (show decode cL_law 383 = .ok (.invokevirtual 41, 3) by decide +kernel) (fun w277 g275 e276 => ?_)
                  refine s_aload_n (pc := 386) (k0 := 2) (i := 2) rfl 2 rfl (show decode cL_law 386 = .ok (.aload_n 2, 1) by decide +kernel) ?_
                  refine s_aload_n (pc := 387) (k0 := 0) (i := 0) rfl 0 rfl (show decode cL_law 387 = .ok (.aload_n 0, 1) by decide +kernel) ?_
                  refine s_iload_n (pc := 388) (k0 := 3) (i := 3) rfl 3 rfl (show decode cL_law 388 = .ok (.iload_n 3, 1) by decide +kernel) ?_
                  refine s_iconst (pc := 389) (n := 1) (v := (1 : Int32)) (by decide) (show decode cL_law 389 = .ok (.iconst 1, 1) by decide +kernel) ?_
                  refine s_iadd (pc := 390) (show decode cL_law 390 = .ok (.iadd, 1) by decide +kernel) ?_
                  refine s_sld (pc := 391) c272 rfl (show decode cL_law 391 = .ok (.iaload, 1) by decide +kernel) ?_
                  refine s_aload_n (pc := 392) (k0 := 0) (i := 0) rfl 0 rfl (show decode cL_law 392 = .ok (.aload_n 0, 1) by decide +kernel) ?_
                  refine s_iload_n (pc := 393) (k0 := 3) (i := 3) rfl 3 rfl (show decode cL_law 393 = .ok (.iload_n 3, 1) by decide +kernel) ?_
                  refine s_iconst (pc := 394) (n := 2) (v := (2 : Int32)) (by decide) (show decode cL_law 394 = .ok (.iconst 2, 1) by decide +kernel) ?_
                  refine s_iadd (pc := 395) (show decode cL_law 395 = .ok (.iadd, 1) by decide +kernel) ?_
                  refine s_sld (pc := 396) c273 rfl (show decode cL_law 396 = .ok (.iaload, 1) by decide +kernel) ?_
                  refine S_gd (fun c278 => ?_)
                  refine s_cVi (pc := 397) [.int (xs (a3 + (1 : Int32)).toNatClampNeg), .int (xs (a3 + (2 : Int32)).toNatClampNeg)] (tX7_sum a2 (xs (a3 + (1 : Int32)).toNatClampNeg) (xs (a3 + (2 : Int32)).toNatClampNeg) g275) c278 cw_L_45 rfl ⟨⟨Nat.le_of_ble_eq_true rfl, Nat.le_of_ble_eq_true rfl⟩, Nat.le_of_ble_eq_true rfl⟩ rfl (show decode cL_law 397 = .ok (.invokevirtual 45, 3) by decide +kernel) (fun w281 g279 e280 => ?_)
                  refine s_icmp_eq (pc := 400) (off := 893) 1293 (show decode cL_law 400 = .ok (.if_icmp .eq 893, 3) by decide +kernel) (by decide) (fun _ => ?_) (fun _ => ?_)
                  · exact pL_law_b1293 n xs hr18 a1 a2 a3 g279
                  · refine s_iconst (pc := 403) (n := 0) (v := (0 : Int32)) (by decide) (show decode cL_law 403 = .ok (.iconst 0, 1) by decide +kernel) ?_
                    exact s_zret (pc := 404) (by decide) rfl (show decode cL_law 404 = .ok (.ireturn, 1) by decide +kernel)
                · refine S_ite (fun e => ?_) (fun ne7 => ?_)
                  · refine s_tableIn (pc := 33) (dflt := 1260) (lo := 0) (hi := 33) (offs := #[151, 214, 237, 260, 273, 316, 339, 372, 405, 438, 461, 484, 527, 570, 603, 626, 649, 662, 685, 708, 742, 785, 829, 862, 906, 939, 972, 1016, 1050, 1094, 1137, 1191, 1224, 1247]) (len := 151) (off := 372) 405 (show decode cL_law 33 = .ok (.tableswitch 1260 0 33 #[151, 214, 237, 260, 273, 316, 339, 372, 405, 438, 461, 484, 527, 570, 603, 626, 649, 662, 685, 708, 742, 785, 829, 862, 906, 939, 972, 1016, 1050, 1094, 1137, 1191, 1224, 1247], 151) by decide +kernel) (by rw [e]; decide) (by rw [e]; decide) (by rw [e]; rfl) (by decide) ?_
                    refine s_aload_n (pc := 405) (k0 := 1) (i := 1) rfl 1 rfl (show decode cL_law 405 = .ok (.aload_n 1, 1) by decide +kernel) ?_
                    refine s_aload_n (pc := 406) (k0 := 0) (i := 0) rfl 0 rfl (show decode cL_law 406 = .ok (.aload_n 0, 1) by decide +kernel) ?_
                    refine s_iload_n (pc := 407) (k0 := 3) (i := 3) rfl 3 rfl (show decode cL_law 407 = .ok (.iload_n 3, 1) by decide +kernel) ?_
                    refine s_iconst (pc := 408) (n := 1) (v := (1 : Int32)) (by decide) (show decode cL_law 408 = .ok (.iconst 1, 1) by decide +kernel) ?_
                    refine s_iadd (pc := 409) (show decode cL_law 409 = .ok (.iadd, 1) by decide +kernel) ?_
                    refine S_gd (fun c262 => ?_)
                    refine s_sld (pc := 410) c262 rfl (show decode cL_law 410 = .ok (.iaload, 1) by decide +kernel) ?_
                    refine s_aload_n (pc := 411) (k0 := 0) (i := 0) rfl 0 rfl (show decode cL_law 411 = .ok (.aload_n 0, 1) by decide +kernel) ?_
                    refine s_iload_n (pc := 412) (k0 := 3) (i := 3) rfl 3 rfl (show decode cL_law 412 = .ok (.iload_n 3, 1) by decide +kernel) ?_
                    refine s_iconst (pc := 413) (n := 2) (v := (2 : Int32)) (by decide) (show decode cL_law 413 = .ok (.iconst 2, 1) by decide +kernel) ?_
                    refine s_iadd (pc := 414) (show decode cL_law 414 = .ok (.iadd, 1) by decide +kernel) ?_
                    refine S_gd (fun c263 => ?_)
                    refine s_sld (pc := 415) c263 rfl (show decode cL_law 415 = .ok (.iaload, 1) by decide +kernel) ?_
                    refine S_gd (fun c264 => ?_)
                    refine s_cVi (pc := 416) [.int (xs (a3 + (1 : Int32)).toNatClampNeg), .int (xs (a3 + (2 : Int32)).toNatClampNeg)] (tX6_under a1 (xs (a3 + (1 : Int32)).toNatClampNeg) (xs (a3 + (2 : Int32)).toNatClampNeg) h) c264 cw_L_46 rfl ⟨⟨Nat.le_of_ble_eq_true rfl, Nat.le_of_ble_eq_true rfl⟩, Nat.le_of_ble_eq_true rfl⟩ rfl (show decode cL_law 416 = .ok (.invokevirtual 46, 3) by decide +kernel) (fun w267 g265 e266 => ?_)
                    refine s_aload_n (pc := 419) (k0 := 2) (i := 2) rfl 2 rfl (show decode cL_law 419 = .ok (.aload_n 2, 1) by decide +kernel) ?_
                    refine s_aload_n (pc := 420) (k0 := 0) (i := 0) rfl 0 rfl (show decode cL_law 420 = .ok (.aload_n 0, 1) by decide +kernel) ?_
                    refine s_iload_n (pc := 421) (k0 := 3) (i := 3) rfl 3 rfl (show decode cL_law 421 = .ok (.iload_n 3, 1) by decide +kernel) ?_
                    refine s_iconst (pc := 422) (n := 1) (v := (1 : Int32)) (by decide) (show decode cL_law 422 = .ok (.iconst 1, 1) by decide +kernel) ?_
                    refine s_iadd (pc := 423) (show decode cL_law 423 = .ok (.iadd, 1) by decide +kernel) ?_
                    refine s_sld (pc := 424) c262 rfl (show decode cL_law 424 = .ok (.iaload, 1) by decide +kernel) ?_
                    refine s_aload_n (pc := 425) (k0 := 0) (i := 0) rfl 0 rfl (show decode cL_law 425 = .ok (.aload_n 0, 1) by decide +kernel) ?_
                    refine s_iload_n (pc := 426) (k0 := 3) (i := 3) rfl 3 rfl (show decode cL_law 426 = .ok (.iload_n 3, 1) by decide +kernel) ?_
                    refine s_iconst (pc := 427) (n := 2) (v := (2 : Int32)) (by decide) (show decode cL_law 427 = .ok (.iconst 2, 1) by decide +kernel) ?_
                    refine s_iadd (pc := 428) (show decode cL_law 428 = .ok (.iadd, 1) by decide +kernel) ?_
                    refine s_sld (pc := 429) c263 rfl (show decode cL_law 429 = .ok (.iaload, 1) by decide +kernel) ?_
                    refine S_gd (fun c268 => ?_)
                    refine s_cVi (pc := 430) [.int (xs (a3 + (1 : Int32)).toNatClampNeg), .int (xs (a3 + (2 : Int32)).toNatClampNeg)] (tX7_under_ a2 (xs (a3 + (1 : Int32)).toNatClampNeg) (xs (a3 + (2 : Int32)).toNatClampNeg) g265) c268 cw_L_49 rfl ⟨⟨Nat.le_of_ble_eq_true rfl, Nat.le_of_ble_eq_true rfl⟩, Nat.le_of_ble_eq_true rfl⟩ rfl (show decode cL_law 430 = .ok (.invokevirtual 49, 3) by decide +kernel) (fun w271 g269 e270 => ?_)
                    refine s_icmp_eq (pc := 433) (off := 860) 1293 (show decode cL_law 433 = .ok (.if_icmp .eq 860, 3) by decide +kernel) (by decide) (fun _ => ?_) (fun _ => ?_)
                    · exact pL_law_b1293 n xs hr18 a1 a2 a3 g269
                    · refine s_iconst (pc := 436) (n := 0) (v := (0 : Int32)) (by decide) (show decode cL_law 436 = .ok (.iconst 0, 1) by decide +kernel) ?_
                      exact s_zret (pc := 437) (by decide) rfl (show decode cL_law 437 = .ok (.ireturn, 1) by decide +kernel)
                  · refine S_ite (fun e => ?_) (fun ne8 => ?_)
                    · refine s_tableIn (pc := 33) (dflt := 1260) (lo := 0) (hi := 33) (offs := #[151, 214, 237, 260, 273, 316, 339, 372, 405, 438, 461, 484, 527, 570, 603, 626, 649, 662, 685, 708, 742, 785, 829, 862, 906, 939, 972, 1016, 1050, 1094, 1137, 1191, 1224, 1247]) (len := 151) (off := 405) 438 (show decode cL_law 33 = .ok (.tableswitch 1260 0 33 #[151, 214, 237, 260, 273, 316, 339, 372, 405, 438, 461, 484, 527, 570, 603, 626, 649, 662, 685, 708, 742, 785, 829, 862, 906, 939, 972, 1016, 1050, 1094, 1137, 1191, 1224, 1247], 151) by decide +kernel) (by rw [e]; decide) (by rw [e]; decide) (by rw [e]; rfl) (by decide) ?_
                      refine s_aload_n (pc := 438) (k0 := 1) (i := 1) rfl 1 rfl (show decode cL_law 438 = .ok (.aload_n 1, 1) by decide +kernel) ?_
                      refine s_aload_n (pc := 439) (k0 := 0) (i := 0) rfl 0 rfl (show decode cL_law 439 = .ok (.aload_n 0, 1) by decide +kernel) ?_
                      refine s_iload_n (pc := 440) (k0 := 3) (i := 3) rfl 3 rfl (show decode cL_law 440 = .ok (.iload_n 3, 1) by decide +kernel) ?_
                      refine s_iconst (pc := 441) (n := 1) (v := (1 : Int32)) (by decide) (show decode cL_law 441 = .ok (.iconst 1, 1) by decide +kernel) ?_
                      refine s_iadd (pc := 442) (show decode cL_law 442 = .ok (.iadd, 1) by decide +kernel) ?_
                      refine S_gd (fun c252 => ?_)
                      refine s_sld (pc := 443) c252 rfl (show decode cL_law 443 = .ok (.iaload, 1) by decide +kernel) ?_
                      refine s_aload_n (pc := 444) (k0 := 0) (i := 0) rfl 0 rfl (show decode cL_law 444 = .ok (.aload_n 0, 1) by decide +kernel) ?_
                      refine s_iload_n (pc := 445) (k0 := 3) (i := 3) rfl 3 rfl (show decode cL_law 445 = .ok (.iload_n 3, 1) by decide +kernel) ?_
                      refine s_iconst (pc := 446) (n := 2) (v := (2 : Int32)) (by decide) (show decode cL_law 446 = .ok (.iconst 2, 1) by decide +kernel) ?_
                      refine s_iadd (pc := 447) (show decode cL_law 447 = .ok (.iadd, 1) by decide +kernel) ?_
                      refine S_gd (fun c253 => ?_)
                      refine s_sld (pc := 448) c253 rfl (show decode cL_law 448 = .ok (.iaload, 1) by decide +kernel) ?_
                      refine S_gd (fun c254 => ?_)
                      refine s_cVi (pc := 449) [.int (xs (a3 + (1 : Int32)).toNatClampNeg), .int (xs (a3 + (2 : Int32)).toNatClampNeg)] (tX6_join a1 (xs (a3 + (1 : Int32)).toNatClampNeg) (xs (a3 + (2 : Int32)).toNatClampNeg) h) c254 cw_L_50 rfl ⟨⟨Nat.le_of_ble_eq_true rfl, Nat.le_of_ble_eq_true rfl⟩, Nat.le_of_ble_eq_true rfl⟩ rfl (show decode cL_law 449 = .ok (.invokevirtual 50, 3) by decide +kernel) (fun w257 g255 e256 => ?_)
                      refine s_aload_n (pc := 452) (k0 := 2) (i := 2) rfl 2 rfl (show decode cL_law 452 = .ok (.aload_n 2, 1) by decide +kernel) ?_
                      refine s_aload_n (pc := 453) (k0 := 0) (i := 0) rfl 0 rfl (show decode cL_law 453 = .ok (.aload_n 0, 1) by decide +kernel) ?_
                      refine s_iload_n (pc := 454) (k0 := 3) (i := 3) rfl 3 rfl (show decode cL_law 454 = .ok (.iload_n 3, 1) by decide +kernel) ?_
                      refine s_iconst (pc := 455) (n := 1) (v := (1 : Int32)) (by decide) (show decode cL_law 455 = .ok (.iconst 1, 1) by decide +kernel) ?_
                      refine s_iadd (pc := 456) (show decode cL_law 456 = .ok (.iadd, 1) by decide +kernel) ?_
                      refine s_sld (pc := 457) c252 rfl (show decode cL_law 457 = .ok (.iaload, 1) by decide +kernel) ?_
                      refine s_aload_n (pc := 458) (k0 := 0) (i := 0) rfl 0 rfl (show decode cL_law 458 = .ok (.aload_n 0, 1) by decide +kernel) ?_
                      refine s_iload_n (pc := 459) (k0 := 3) (i := 3) rfl 3 rfl (show decode cL_law 459 = .ok (.iload_n 3, 1) by decide +kernel) ?_
                      refine s_iconst (pc := 460) (n := 2) (v := (2 : Int32)) (by decide) (show decode cL_law 460 = .ok (.iconst 2, 1) by decide +kernel) ?_
                      refine s_iadd (pc := 461) (show decode cL_law 461 = .ok (.iadd, 1) by decide +kernel) ?_
                      refine s_sld (pc := 462) c253 rfl (show decode cL_law 462 = .ok (.iaload, 1) by decide +kernel) ?_
                      refine S_gd (fun c258 => ?_)
                      refine s_cVi (pc := 463) [.int (xs (a3 + (1 : Int32)).toNatClampNeg), .int (xs (a3 + (2 : Int32)).toNatClampNeg)] (tX7_join a2 (xs (a3 + (1 : Int32)).toNatClampNeg) (xs (a3 + (2 : Int32)).toNatClampNeg) g255) c258 cw_L_53 rfl ⟨⟨Nat.le_of_ble_eq_true rfl, Nat.le_of_ble_eq_true rfl⟩, Nat.le_of_ble_eq_true rfl⟩ rfl (show decode cL_law 463 = .ok (.invokevirtual 53, 3) by decide +kernel) (fun w261 g259 e260 => ?_)
                      refine s_icmp_eq (pc := 466) (off := 827) 1293 (show decode cL_law 466 = .ok (.if_icmp .eq 827, 3) by decide +kernel) (by decide) (fun _ => ?_) (fun _ => ?_)
                      · exact pL_law_b1293 n xs hr18 a1 a2 a3 g259
                      · refine s_iconst (pc := 469) (n := 0) (v := (0 : Int32)) (by decide) (show decode cL_law 469 = .ok (.iconst 0, 1) by decide +kernel) ?_
                        exact s_zret (pc := 470) (by decide) rfl (show decode cL_law 470 = .ok (.ireturn, 1) by decide +kernel)
                    · refine S_ite (fun e => ?_) (fun ne9 => ?_)
                      · refine s_tableIn (pc := 33) (dflt := 1260) (lo := 0) (hi := 33) (offs := #[151, 214, 237, 260, 273, 316, 339, 372, 405, 438, 461, 484, 527, 570, 603, 626, 649, 662, 685, 708, 742, 785, 829, 862, 906, 939, 972, 1016, 1050, 1094, 1137, 1191, 1224, 1247]) (len := 151) (off := 438) 471 (show decode cL_law 33 = .ok (.tableswitch 1260 0 33 #[151, 214, 237, 260, 273, 316, 339, 372, 405, 438, 461, 484, 527, 570, 603, 626, 649, 662, 685, 708, 742, 785, 829, 862, 906, 939, 972, 1016, 1050, 1094, 1137, 1191, 1224, 1247], 151) by decide +kernel) (by rw [e]; decide) (by rw [e]; decide) (by rw [e]; rfl) (by decide) ?_
                        refine s_aload_n (pc := 471) (k0 := 1) (i := 1) rfl 1 rfl (show decode cL_law 471 = .ok (.aload_n 1, 1) by decide +kernel) ?_
                        refine s_aload_n (pc := 472) (k0 := 0) (i := 0) rfl 0 rfl (show decode cL_law 472 = .ok (.aload_n 0, 1) by decide +kernel) ?_
                        refine s_iload_n (pc := 473) (k0 := 3) (i := 3) rfl 3 rfl (show decode cL_law 473 = .ok (.iload_n 3, 1) by decide +kernel) ?_
                        refine s_iconst (pc := 474) (n := 1) (v := (1 : Int32)) (by decide) (show decode cL_law 474 = .ok (.iconst 1, 1) by decide +kernel) ?_
                        refine s_iadd (pc := 475) (show decode cL_law 475 = .ok (.iadd, 1) by decide +kernel) ?_
                        refine S_gd (fun c243 => ?_)
                        refine s_sld (pc := 476) c243 rfl (show decode cL_law 476 = .ok (.iaload, 1) by decide +kernel) ?_
                        refine S_gd (fun c244 => ?_)
                        refine s_cVi (pc := 477) [.int (xs (a3 + (1 : Int32)).toNatClampNeg)] (tX6_turn a1 (xs (a3 + (1 : Int32)).toNatClampNeg) h) c244 cw_L_54 rfl ⟨⟨Nat.le_of_ble_eq_true rfl, Nat.le_of_ble_eq_true rfl⟩, Nat.le_of_ble_eq_true rfl⟩ rfl (show decode cL_law 477 = .ok (.invokevirtual 54, 3) by decide +kernel) (fun w247 g245 e246 => ?_)
                        refine s_aload_n (pc := 480) (k0 := 2) (i := 2) rfl 2 rfl (show decode cL_law 480 = .ok (.aload_n 2, 1) by decide +kernel) ?_
                        refine s_aload_n (pc := 481) (k0 := 0) (i := 0) rfl 0 rfl (show decode cL_law 481 = .ok (.aload_n 0, 1) by decide +kernel) ?_
                        refine s_iload_n (pc := 482) (k0 := 3) (i := 3) rfl 3 rfl (show decode cL_law 482 = .ok (.iload_n 3, 1) by decide +kernel) ?_
                        refine s_iconst (pc := 483) (n := 1) (v := (1 : Int32)) (by decide) (show decode cL_law 483 = .ok (.iconst 1, 1) by decide +kernel) ?_
                        refine s_iadd (pc := 484) (show decode cL_law 484 = .ok (.iadd, 1) by decide +kernel) ?_
                        refine s_sld (pc := 485) c243 rfl (show decode cL_law 485 = .ok (.iaload, 1) by decide +kernel) ?_
                        refine S_gd (fun c248 => ?_)
                        refine s_cVi (pc := 486) [.int (xs (a3 + (1 : Int32)).toNatClampNeg)] (tX7_turn a2 (xs (a3 + (1 : Int32)).toNatClampNeg) g245) c248 cw_L_57 rfl ⟨⟨Nat.le_of_ble_eq_true rfl, Nat.le_of_ble_eq_true rfl⟩, Nat.le_of_ble_eq_true rfl⟩ rfl (show decode cL_law 486 = .ok (.invokevirtual 57, 3) by decide +kernel) (fun w251 g249 e250 => ?_)
                        refine s_icmp_eq (pc := 489) (off := 804) 1293 (show decode cL_law 489 = .ok (.if_icmp .eq 804, 3) by decide +kernel) (by decide) (fun _ => ?_) (fun _ => ?_)
                        · exact pL_law_b1293 n xs hr18 a1 a2 a3 g249
                        · refine s_iconst (pc := 492) (n := 0) (v := (0 : Int32)) (by decide) (show decode cL_law 492 = .ok (.iconst 0, 1) by decide +kernel) ?_
                          exact s_zret (pc := 493) (by decide) rfl (show decode cL_law 493 = .ok (.ireturn, 1) by decide +kernel)
                      · refine S_ite (fun e => ?_) (fun ne10 => ?_)
                        · refine s_tableIn (pc := 33) (dflt := 1260) (lo := 0) (hi := 33) (offs := #[151, 214, 237, 260, 273, 316, 339, 372, 405, 438, 461, 484, 527, 570, 603, 626, 649, 662, 685, 708, 742, 785, 829, 862, 906, 939, 972, 1016, 1050, 1094, 1137, 1191, 1224, 1247]) (len := 151) (off := 461) 494 (show decode cL_law 33 = .ok (.tableswitch 1260 0 33 #[151, 214, 237, 260, 273, 316, 339, 372, 405, 438, 461, 484, 527, 570, 603, 626, 649, 662, 685, 708, 742, 785, 829, 862, 906, 939, 972, 1016, 1050, 1094, 1137, 1191, 1224, 1247], 151) by decide +kernel) (by rw [e]; decide) (by rw [e]; decide) (by rw [e]; rfl) (by decide) ?_
                          refine s_aload_n (pc := 494) (k0 := 1) (i := 1) rfl 1 rfl (show decode cL_law 494 = .ok (.aload_n 1, 1) by decide +kernel) ?_
                          refine s_aload_n (pc := 495) (k0 := 0) (i := 0) rfl 0 rfl (show decode cL_law 495 = .ok (.aload_n 0, 1) by decide +kernel) ?_
                          refine s_iload_n (pc := 496) (k0 := 3) (i := 3) rfl 3 rfl (show decode cL_law 496 = .ok (.iload_n 3, 1) by decide +kernel) ?_
                          refine s_iconst (pc := 497) (n := 1) (v := (1 : Int32)) (by decide) (show decode cL_law 497 = .ok (.iconst 1, 1) by decide +kernel) ?_
                          refine s_iadd (pc := 498) (show decode cL_law 498 = .ok (.iadd, 1) by decide +kernel) ?_
                          refine S_gd (fun c234 => ?_)
                          refine s_sld (pc := 499) c234 rfl (show decode cL_law 499 = .ok (.iaload, 1) by decide +kernel) ?_
                          refine S_gd (fun c235 => ?_)
                          refine s_cVi (pc := 500) [.int (xs (a3 + (1 : Int32)).toNatClampNeg)] (tX6_hull a1 (xs (a3 + (1 : Int32)).toNatClampNeg) h) c235 cw_L_58 rfl ⟨⟨Nat.le_of_ble_eq_true rfl, Nat.le_of_ble_eq_true rfl⟩, Nat.le_of_ble_eq_true rfl⟩ rfl (show decode cL_law 500 = .ok (.invokevirtual 58, 3) by decide +kernel) (fun w238 g236 e237 => ?_)
                          refine s_aload_n (pc := 503) (k0 := 2) (i := 2) rfl 2 rfl (show decode cL_law 503 = .ok (.aload_n 2, 1) by decide +kernel) ?_
                          refine s_aload_n (pc := 504) (k0 := 0) (i := 0) rfl 0 rfl (show decode cL_law 504 = .ok (.aload_n 0, 1) by decide +kernel) ?_
                          refine s_iload_n (pc := 505) (k0 := 3) (i := 3) rfl 3 rfl (show decode cL_law 505 = .ok (.iload_n 3, 1) by decide +kernel) ?_
                          refine s_iconst (pc := 506) (n := 1) (v := (1 : Int32)) (by decide) (show decode cL_law 506 = .ok (.iconst 1, 1) by decide +kernel) ?_
                          refine s_iadd (pc := 507) (show decode cL_law 507 = .ok (.iadd, 1) by decide +kernel) ?_
                          refine s_sld (pc := 508) c234 rfl (show decode cL_law 508 = .ok (.iaload, 1) by decide +kernel) ?_
                          refine S_gd (fun c239 => ?_)
                          refine s_cVi (pc := 509) [.int (xs (a3 + (1 : Int32)).toNatClampNeg)] (tX7_hull a2 (xs (a3 + (1 : Int32)).toNatClampNeg) g236) c239 cw_L_61 rfl ⟨⟨Nat.le_of_ble_eq_true rfl, Nat.le_of_ble_eq_true rfl⟩, Nat.le_of_ble_eq_true rfl⟩ rfl (show decode cL_law 509 = .ok (.invokevirtual 61, 3) by decide +kernel) (fun w242 g240 e241 => ?_)
                          refine s_icmp_eq (pc := 512) (off := 781) 1293 (show decode cL_law 512 = .ok (.if_icmp .eq 781, 3) by decide +kernel) (by decide) (fun _ => ?_) (fun _ => ?_)
                          · exact pL_law_b1293 n xs hr18 a1 a2 a3 g240
                          · refine s_iconst (pc := 515) (n := 0) (v := (0 : Int32)) (by decide) (show decode cL_law 515 = .ok (.iconst 0, 1) by decide +kernel) ?_
                            exact s_zret (pc := 516) (by decide) rfl (show decode cL_law 516 = .ok (.ireturn, 1) by decide +kernel)
                        · refine S_ite (fun e => ?_) (fun ne11 => ?_)
                          · refine s_tableIn (pc := 33) (dflt := 1260) (lo := 0) (hi := 33) (offs := #[151, 214, 237, 260, 273, 316, 339, 372, 405, 438, 461, 484, 527, 570, 603, 626, 649, 662, 685, 708, 742, 785, 829, 862, 906, 939, 972, 1016, 1050, 1094, 1137, 1191, 1224, 1247]) (len := 151) (off := 484) 517 (show decode cL_law 33 = .ok (.tableswitch 1260 0 33 #[151, 214, 237, 260, 273, 316, 339, 372, 405, 438, 461, 484, 527, 570, 603, 626, 649, 662, 685, 708, 742, 785, 829, 862, 906, 939, 972, 1016, 1050, 1094, 1137, 1191, 1224, 1247], 151) by decide +kernel) (by rw [e]; decide) (by rw [e]; decide) (by rw [e]; rfl) (by decide) ?_
                            refine s_aload_n (pc := 517) (k0 := 1) (i := 1) rfl 1 rfl (show decode cL_law 517 = .ok (.aload_n 1, 1) by decide +kernel) ?_
                            refine s_aload_n (pc := 518) (k0 := 0) (i := 0) rfl 0 rfl (show decode cL_law 518 = .ok (.aload_n 0, 1) by decide +kernel) ?_
                            refine s_iload_n (pc := 519) (k0 := 3) (i := 3) rfl 3 rfl (show decode cL_law 519 = .ok (.iload_n 3, 1) by decide +kernel) ?_
                            refine s_iconst (pc := 520) (n := 1) (v := (1 : Int32)) (by decide) (show decode cL_law 520 = .ok (.iconst 1, 1) by decide +kernel) ?_
                            refine s_iadd (pc := 521) (show decode cL_law 521 = .ok (.iadd, 1) by decide +kernel) ?_
                            refine S_gd (fun c223 => ?_)
                            refine s_sld (pc := 522) c223 rfl (show decode cL_law 522 = .ok (.iaload, 1) by decide +kernel) ?_
                            refine s_aload_n (pc := 523) (k0 := 0) (i := 0) rfl 0 rfl (show decode cL_law 523 = .ok (.aload_n 0, 1) by decide +kernel) ?_
                            refine s_iload_n (pc := 524) (k0 := 3) (i := 3) rfl 3 rfl (show decode cL_law 524 = .ok (.iload_n 3, 1) by decide +kernel) ?_
                            refine s_iconst (pc := 525) (n := 2) (v := (2 : Int32)) (by decide) (show decode cL_law 525 = .ok (.iconst 2, 1) by decide +kernel) ?_
                            refine s_iadd (pc := 526) (show decode cL_law 526 = .ok (.iadd, 1) by decide +kernel) ?_
                            refine S_gd (fun c224 => ?_)
                            refine s_sld (pc := 527) c224 rfl (show decode cL_law 527 = .ok (.iaload, 1) by decide +kernel) ?_
                            refine s_aload_n (pc := 528) (k0 := 0) (i := 0) rfl 0 rfl (show decode cL_law 528 = .ok (.aload_n 0, 1) by decide +kernel) ?_
                            refine s_iload_n (pc := 529) (k0 := 3) (i := 3) rfl 3 rfl (show decode cL_law 529 = .ok (.iload_n 3, 1) by decide +kernel) ?_
                            refine s_iconst (pc := 530) (n := 3) (v := (3 : Int32)) (by decide) (show decode cL_law 530 = .ok (.iconst 3, 1) by decide +kernel) ?_
                            refine s_iadd (pc := 531) (show decode cL_law 531 = .ok (.iadd, 1) by decide +kernel) ?_
                            refine S_gd (fun c225 => ?_)
                            refine s_sld (pc := 532) c225 rfl (show decode cL_law 532 = .ok (.iaload, 1) by decide +kernel) ?_
                            refine S_gd (fun c226 => ?_)
                            refine s_cVi (pc := 533) [.int (xs (a3 + (1 : Int32)).toNatClampNeg), .int (xs (a3 + (2 : Int32)).toNatClampNeg), .int (xs (a3 + (3 : Int32)).toNatClampNeg)] (tX6_cut a1 (xs (a3 + (1 : Int32)).toNatClampNeg) (xs (a3 + (2 : Int32)).toNatClampNeg) (xs (a3 + (3 : Int32)).toNatClampNeg) h) c226 cw_L_62 rfl ⟨⟨Nat.le_of_ble_eq_true rfl, Nat.le_of_ble_eq_true rfl⟩, Nat.le_of_ble_eq_true rfl⟩ rfl (show decode cL_law 533 = .ok (.invokevirtual 62, 3) by decide +kernel) (fun w229 g227 e228 => ?_)
                            refine s_aload_n (pc := 536) (k0 := 2) (i := 2) rfl 2 rfl (show decode cL_law 536 = .ok (.aload_n 2, 1) by decide +kernel) ?_
                            refine s_aload_n (pc := 537) (k0 := 0) (i := 0) rfl 0 rfl (show decode cL_law 537 = .ok (.aload_n 0, 1) by decide +kernel) ?_
                            refine s_iload_n (pc := 538) (k0 := 3) (i := 3) rfl 3 rfl (show decode cL_law 538 = .ok (.iload_n 3, 1) by decide +kernel) ?_
                            refine s_iconst (pc := 539) (n := 1) (v := (1 : Int32)) (by decide) (show decode cL_law 539 = .ok (.iconst 1, 1) by decide +kernel) ?_
                            refine s_iadd (pc := 540) (show decode cL_law 540 = .ok (.iadd, 1) by decide +kernel) ?_
                            refine s_sld (pc := 541) c223 rfl (show decode cL_law 541 = .ok (.iaload, 1) by decide +kernel) ?_
                            refine s_aload_n (pc := 542) (k0 := 0) (i := 0) rfl 0 rfl (show decode cL_law 542 = .ok (.aload_n 0, 1) by decide +kernel) ?_
                            refine s_iload_n (pc := 543) (k0 := 3) (i := 3) rfl 3 rfl (show decode cL_law 543 = .ok (.iload_n 3, 1) by decide +kernel) ?_
                            refine s_iconst (pc := 544) (n := 2) (v := (2 : Int32)) (by decide) (show decode cL_law 544 = .ok (.iconst 2, 1) by decide +kernel) ?_
                            refine s_iadd (pc := 545) (show decode cL_law 545 = .ok (.iadd, 1) by decide +kernel) ?_
                            refine s_sld (pc := 546) c224 rfl (show decode cL_law 546 = .ok (.iaload, 1) by decide +kernel) ?_
                            refine s_aload_n (pc := 547) (k0 := 0) (i := 0) rfl 0 rfl (show decode cL_law 547 = .ok (.aload_n 0, 1) by decide +kernel) ?_
                            refine s_iload_n (pc := 548) (k0 := 3) (i := 3) rfl 3 rfl (show decode cL_law 548 = .ok (.iload_n 3, 1) by decide +kernel) ?_
                            refine s_iconst (pc := 549) (n := 3) (v := (3 : Int32)) (by decide) (show decode cL_law 549 = .ok (.iconst 3, 1) by decide +kernel) ?_
                            refine s_iadd (pc := 550) (show decode cL_law 550 = .ok (.iadd, 1) by decide +kernel) ?_
                            refine s_sld (pc := 551) c225 rfl (show decode cL_law 551 = .ok (.iaload, 1) by decide +kernel) ?_
                            refine S_gd (fun c230 => ?_)
                            refine s_cVi (pc := 552) [.int (xs (a3 + (1 : Int32)).toNatClampNeg), .int (xs (a3 + (2 : Int32)).toNatClampNeg), .int (xs (a3 + (3 : Int32)).toNatClampNeg)] (tX7_cut a2 (xs (a3 + (1 : Int32)).toNatClampNeg) (xs (a3 + (2 : Int32)).toNatClampNeg) (xs (a3 + (3 : Int32)).toNatClampNeg) g227) c230 cw_L_65 rfl ⟨⟨Nat.le_of_ble_eq_true rfl, Nat.le_of_ble_eq_true rfl⟩, Nat.le_of_ble_eq_true rfl⟩ rfl (show decode cL_law 552 = .ok (.invokevirtual 65, 3) by decide +kernel) (fun w233 g231 e232 => ?_)
                            refine s_icmp_eq (pc := 555) (off := 738) 1293 (show decode cL_law 555 = .ok (.if_icmp .eq 738, 3) by decide +kernel) (by decide) (fun _ => ?_) (fun _ => ?_)
                            · exact pL_law_b1293 n xs hr18 a1 a2 a3 g231
                            · refine s_iconst (pc := 558) (n := 0) (v := (0 : Int32)) (by decide) (show decode cL_law 558 = .ok (.iconst 0, 1) by decide +kernel) ?_
                              exact s_zret (pc := 559) (by decide) rfl (show decode cL_law 559 = .ok (.ireturn, 1) by decide +kernel)
                          · refine S_ite (fun e => ?_) (fun ne12 => ?_)
                            · refine s_tableIn (pc := 33) (dflt := 1260) (lo := 0) (hi := 33) (offs := #[151, 214, 237, 260, 273, 316, 339, 372, 405, 438, 461, 484, 527, 570, 603, 626, 649, 662, 685, 708, 742, 785, 829, 862, 906, 939, 972, 1016, 1050, 1094, 1137, 1191, 1224, 1247]) (len := 151) (off := 527) 560 (show decode cL_law 33 = .ok (.tableswitch 1260 0 33 #[151, 214, 237, 260, 273, 316, 339, 372, 405, 438, 461, 484, 527, 570, 603, 626, 649, 662, 685, 708, 742, 785, 829, 862, 906, 939, 972, 1016, 1050, 1094, 1137, 1191, 1224, 1247], 151) by decide +kernel) (by rw [e]; decide) (by rw [e]; decide) (by rw [e]; rfl) (by decide) ?_
                              refine s_aload_n (pc := 560) (k0 := 1) (i := 1) rfl 1 rfl (show decode cL_law 560 = .ok (.aload_n 1, 1) by decide +kernel) ?_
                              refine s_aload_n (pc := 561) (k0 := 0) (i := 0) rfl 0 rfl (show decode cL_law 561 = .ok (.aload_n 0, 1) by decide +kernel) ?_
                              refine s_iload_n (pc := 562) (k0 := 3) (i := 3) rfl 3 rfl (show decode cL_law 562 = .ok (.iload_n 3, 1) by decide +kernel) ?_
                              refine s_iconst (pc := 563) (n := 1) (v := (1 : Int32)) (by decide) (show decode cL_law 563 = .ok (.iconst 1, 1) by decide +kernel) ?_
                              refine s_iadd (pc := 564) (show decode cL_law 564 = .ok (.iadd, 1) by decide +kernel) ?_
                              refine S_gd (fun c212 => ?_)
                              refine s_sld (pc := 565) c212 rfl (show decode cL_law 565 = .ok (.iaload, 1) by decide +kernel) ?_
                              refine s_aload_n (pc := 566) (k0 := 0) (i := 0) rfl 0 rfl (show decode cL_law 566 = .ok (.aload_n 0, 1) by decide +kernel) ?_
                              refine s_iload_n (pc := 567) (k0 := 3) (i := 3) rfl 3 rfl (show decode cL_law 567 = .ok (.iload_n 3, 1) by decide +kernel) ?_
                              refine s_iconst (pc := 568) (n := 2) (v := (2 : Int32)) (by decide) (show decode cL_law 568 = .ok (.iconst 2, 1) by decide +kernel) ?_
                              refine s_iadd (pc := 569) (show decode cL_law 569 = .ok (.iadd, 1) by decide +kernel) ?_
                              refine S_gd (fun c213 => ?_)
                              refine s_sld (pc := 570) c213 rfl (show decode cL_law 570 = .ok (.iaload, 1) by decide +kernel) ?_
                              refine s_aload_n (pc := 571) (k0 := 0) (i := 0) rfl 0 rfl (show decode cL_law 571 = .ok (.aload_n 0, 1) by decide +kernel) ?_
                              refine s_iload_n (pc := 572) (k0 := 3) (i := 3) rfl 3 rfl (show decode cL_law 572 = .ok (.iload_n 3, 1) by decide +kernel) ?_
                              refine s_iconst (pc := 573) (n := 3) (v := (3 : Int32)) (by decide) (show decode cL_law 573 = .ok (.iconst 3, 1) by decide +kernel) ?_
                              refine s_iadd (pc := 574) (show decode cL_law 574 = .ok (.iadd, 1) by decide +kernel) ?_
                              refine S_gd (fun c214 => ?_)
                              refine s_sld (pc := 575) c214 rfl (show decode cL_law 575 = .ok (.iaload, 1) by decide +kernel) ?_
                              refine S_gd (fun c215 => ?_)
                              refine s_cVi (pc := 576) [.int (xs (a3 + (1 : Int32)).toNatClampNeg), .int (xs (a3 + (2 : Int32)).toNatClampNeg), .int (xs (a3 + (3 : Int32)).toNatClampNeg)] (tX6_move a1 (xs (a3 + (1 : Int32)).toNatClampNeg) (xs (a3 + (2 : Int32)).toNatClampNeg) (xs (a3 + (3 : Int32)).toNatClampNeg) h) c215 cw_L_66 rfl ⟨⟨Nat.le_of_ble_eq_true rfl, Nat.le_of_ble_eq_true rfl⟩, Nat.le_of_ble_eq_true rfl⟩ rfl (show decode cL_law 576 = .ok (.invokevirtual 66, 3) by decide +kernel) (fun w218 g216 e217 => ?_)
                              refine s_aload_n (pc := 579) (k0 := 2) (i := 2) rfl 2 rfl (show decode cL_law 579 = .ok (.aload_n 2, 1) by decide +kernel) ?_
                              refine s_aload_n (pc := 580) (k0 := 0) (i := 0) rfl 0 rfl (show decode cL_law 580 = .ok (.aload_n 0, 1) by decide +kernel) ?_
                              refine s_iload_n (pc := 581) (k0 := 3) (i := 3) rfl 3 rfl (show decode cL_law 581 = .ok (.iload_n 3, 1) by decide +kernel) ?_
                              refine s_iconst (pc := 582) (n := 1) (v := (1 : Int32)) (by decide) (show decode cL_law 582 = .ok (.iconst 1, 1) by decide +kernel) ?_
                              refine s_iadd (pc := 583) (show decode cL_law 583 = .ok (.iadd, 1) by decide +kernel) ?_
                              refine s_sld (pc := 584) c212 rfl (show decode cL_law 584 = .ok (.iaload, 1) by decide +kernel) ?_
                              refine s_aload_n (pc := 585) (k0 := 0) (i := 0) rfl 0 rfl (show decode cL_law 585 = .ok (.aload_n 0, 1) by decide +kernel) ?_
                              refine s_iload_n (pc := 586) (k0 := 3) (i := 3) rfl 3 rfl (show decode cL_law 586 = .ok (.iload_n 3, 1) by decide +kernel) ?_
                              refine s_iconst (pc := 587) (n := 2) (v := (2 : Int32)) (by decide) (show decode cL_law 587 = .ok (.iconst 2, 1) by decide +kernel) ?_
                              refine s_iadd (pc := 588) (show decode cL_law 588 = .ok (.iadd, 1) by decide +kernel) ?_
                              refine s_sld (pc := 589) c213 rfl (show decode cL_law 589 = .ok (.iaload, 1) by decide +kernel) ?_
                              refine s_aload_n (pc := 590) (k0 := 0) (i := 0) rfl 0 rfl (show decode cL_law 590 = .ok (.aload_n 0, 1) by decide +kernel) ?_
                              refine s_iload_n (pc := 591) (k0 := 3) (i := 3) rfl 3 rfl (show decode cL_law 591 = .ok (.iload_n 3, 1) by decide +kernel) ?_
                              refine s_iconst (pc := 592) (n := 3) (v := (3 : Int32)) (by decide) (show decode cL_law 592 = .ok (.iconst 3, 1) by decide +kernel) ?_
                              refine s_iadd (pc := 593) (show decode cL_law 593 = .ok (.iadd, 1) by decide +kernel) ?_
                              refine s_sld (pc := 594) c214 rfl (show decode cL_law 594 = .ok (.iaload, 1) by decide +kernel) ?_
                              refine S_gd (fun c219 => ?_)
                              refine s_cVi (pc := 595) [.int (xs (a3 + (1 : Int32)).toNatClampNeg), .int (xs (a3 + (2 : Int32)).toNatClampNeg), .int (xs (a3 + (3 : Int32)).toNatClampNeg)] (tX7_move a2 (xs (a3 + (1 : Int32)).toNatClampNeg) (xs (a3 + (2 : Int32)).toNatClampNeg) (xs (a3 + (3 : Int32)).toNatClampNeg) g216) c219 cw_L_69 rfl ⟨⟨Nat.le_of_ble_eq_true rfl, Nat.le_of_ble_eq_true rfl⟩, Nat.le_of_ble_eq_true rfl⟩ rfl (show decode cL_law 595 = .ok (.invokevirtual 69, 3) by decide +kernel) (fun w222 g220 e221 => ?_)
                              refine s_icmp_eq (pc := 598) (off := 695) 1293 (show decode cL_law 598 = .ok (.if_icmp .eq 695, 3) by decide +kernel) (by decide) (fun _ => ?_) (fun _ => ?_)
                              · exact pL_law_b1293 n xs hr18 a1 a2 a3 g220
                              · refine s_iconst (pc := 601) (n := 0) (v := (0 : Int32)) (by decide) (show decode cL_law 601 = .ok (.iconst 0, 1) by decide +kernel) ?_
                                exact s_zret (pc := 602) (by decide) rfl (show decode cL_law 602 = .ok (.ireturn, 1) by decide +kernel)
                            · refine S_ite (fun e => ?_) (fun ne13 => ?_)
                              · refine s_tableIn (pc := 33) (dflt := 1260) (lo := 0) (hi := 33) (offs := #[151, 214, 237, 260, 273, 316, 339, 372, 405, 438, 461, 484, 527, 570, 603, 626, 649, 662, 685, 708, 742, 785, 829, 862, 906, 939, 972, 1016, 1050, 1094, 1137, 1191, 1224, 1247]) (len := 151) (off := 570) 603 (show decode cL_law 33 = .ok (.tableswitch 1260 0 33 #[151, 214, 237, 260, 273, 316, 339, 372, 405, 438, 461, 484, 527, 570, 603, 626, 649, 662, 685, 708, 742, 785, 829, 862, 906, 939, 972, 1016, 1050, 1094, 1137, 1191, 1224, 1247], 151) by decide +kernel) (by rw [e]; decide) (by rw [e]; decide) (by rw [e]; rfl) (by decide) ?_
                                refine s_aload_n (pc := 603) (k0 := 1) (i := 1) rfl 1 rfl (show decode cL_law 603 = .ok (.aload_n 1, 1) by decide +kernel) ?_
                                refine s_aload_n (pc := 604) (k0 := 0) (i := 0) rfl 0 rfl (show decode cL_law 604 = .ok (.aload_n 0, 1) by decide +kernel) ?_
                                refine s_iload_n (pc := 605) (k0 := 3) (i := 3) rfl 3 rfl (show decode cL_law 605 = .ok (.iload_n 3, 1) by decide +kernel) ?_
                                refine s_iconst (pc := 606) (n := 1) (v := (1 : Int32)) (by decide) (show decode cL_law 606 = .ok (.iconst 1, 1) by decide +kernel) ?_
                                refine s_iadd (pc := 607) (show decode cL_law 607 = .ok (.iadd, 1) by decide +kernel) ?_
                                refine S_gd (fun c202 => ?_)
                                refine s_sld (pc := 608) c202 rfl (show decode cL_law 608 = .ok (.iaload, 1) by decide +kernel) ?_
                                refine s_aload_n (pc := 609) (k0 := 0) (i := 0) rfl 0 rfl (show decode cL_law 609 = .ok (.aload_n 0, 1) by decide +kernel) ?_
                                refine s_iload_n (pc := 610) (k0 := 3) (i := 3) rfl 3 rfl (show decode cL_law 610 = .ok (.iload_n 3, 1) by decide +kernel) ?_
                                refine s_iconst (pc := 611) (n := 2) (v := (2 : Int32)) (by decide) (show decode cL_law 611 = .ok (.iconst 2, 1) by decide +kernel) ?_
                                refine s_iadd (pc := 612) (show decode cL_law 612 = .ok (.iadd, 1) by decide +kernel) ?_
                                refine S_gd (fun c203 => ?_)
                                refine s_sld (pc := 613) c203 rfl (show decode cL_law 613 = .ok (.iaload, 1) by decide +kernel) ?_
                                refine S_gd (fun c204 => ?_)
                                refine s_cVi (pc := 614) [.int (xs (a3 + (1 : Int32)).toNatClampNeg), .int (xs (a3 + (2 : Int32)).toNatClampNeg)] (tX6_times a1 (xs (a3 + (1 : Int32)).toNatClampNeg) (xs (a3 + (2 : Int32)).toNatClampNeg) h) c204 cw_L_70 rfl ⟨⟨Nat.le_of_ble_eq_true rfl, Nat.le_of_ble_eq_true rfl⟩, Nat.le_of_ble_eq_true rfl⟩ rfl (show decode cL_law 614 = .ok (.invokevirtual 70, 3) by decide +kernel) (fun w207 g205 e206 => ?_)
                                refine s_aload_n (pc := 617) (k0 := 2) (i := 2) rfl 2 rfl (show decode cL_law 617 = .ok (.aload_n 2, 1) by decide +kernel) ?_
                                refine s_aload_n (pc := 618) (k0 := 0) (i := 0) rfl 0 rfl (show decode cL_law 618 = .ok (.aload_n 0, 1) by decide +kernel) ?_
                                refine s_iload_n (pc := 619) (k0 := 3) (i := 3) rfl 3 rfl (show decode cL_law 619 = .ok (.iload_n 3, 1) by decide +kernel) ?_
                                refine s_iconst (pc := 620) (n := 1) (v := (1 : Int32)) (by decide) (show decode cL_law 620 = .ok (.iconst 1, 1) by decide +kernel) ?_
                                refine s_iadd (pc := 621) (show decode cL_law 621 = .ok (.iadd, 1) by decide +kernel) ?_
                                refine s_sld (pc := 622) c202 rfl (show decode cL_law 622 = .ok (.iaload, 1) by decide +kernel) ?_
                                refine s_aload_n (pc := 623) (k0 := 0) (i := 0) rfl 0 rfl (show decode cL_law 623 = .ok (.aload_n 0, 1) by decide +kernel) ?_
                                refine s_iload_n (pc := 624) (k0 := 3) (i := 3) rfl 3 rfl (show decode cL_law 624 = .ok (.iload_n 3, 1) by decide +kernel) ?_
                                refine s_iconst (pc := 625) (n := 2) (v := (2 : Int32)) (by decide) (show decode cL_law 625 = .ok (.iconst 2, 1) by decide +kernel) ?_
                                refine s_iadd (pc := 626) (show decode cL_law 626 = .ok (.iadd, 1) by decide +kernel) ?_
                                refine s_sld (pc := 627) c203 rfl (show decode cL_law 627 = .ok (.iaload, 1) by decide +kernel) ?_
                                refine S_gd (fun c208 => ?_)
                                refine s_cVi (pc := 628) [.int (xs (a3 + (1 : Int32)).toNatClampNeg), .int (xs (a3 + (2 : Int32)).toNatClampNeg)] (tX7_times a2 (xs (a3 + (1 : Int32)).toNatClampNeg) (xs (a3 + (2 : Int32)).toNatClampNeg) g205) c208 cw_L_73 rfl ⟨⟨Nat.le_of_ble_eq_true rfl, Nat.le_of_ble_eq_true rfl⟩, Nat.le_of_ble_eq_true rfl⟩ rfl (show decode cL_law 628 = .ok (.invokevirtual 73, 3) by decide +kernel) (fun w211 g209 e210 => ?_)
                                refine s_icmp_eq (pc := 631) (off := 662) 1293 (show decode cL_law 631 = .ok (.if_icmp .eq 662, 3) by decide +kernel) (by decide) (fun _ => ?_) (fun _ => ?_)
                                · exact pL_law_b1293 n xs hr18 a1 a2 a3 g209
                                · refine s_iconst (pc := 634) (n := 0) (v := (0 : Int32)) (by decide) (show decode cL_law 634 = .ok (.iconst 0, 1) by decide +kernel) ?_
                                  exact s_zret (pc := 635) (by decide) rfl (show decode cL_law 635 = .ok (.ireturn, 1) by decide +kernel)
                              · refine S_ite (fun e => ?_) (fun ne14 => ?_)
                                · refine s_tableIn (pc := 33) (dflt := 1260) (lo := 0) (hi := 33) (offs := #[151, 214, 237, 260, 273, 316, 339, 372, 405, 438, 461, 484, 527, 570, 603, 626, 649, 662, 685, 708, 742, 785, 829, 862, 906, 939, 972, 1016, 1050, 1094, 1137, 1191, 1224, 1247]) (len := 151) (off := 603) 636 (show decode cL_law 33 = .ok (.tableswitch 1260 0 33 #[151, 214, 237, 260, 273, 316, 339, 372, 405, 438, 461, 484, 527, 570, 603, 626, 649, 662, 685, 708, 742, 785, 829, 862, 906, 939, 972, 1016, 1050, 1094, 1137, 1191, 1224, 1247], 151) by decide +kernel) (by rw [e]; decide) (by rw [e]; decide) (by rw [e]; rfl) (by decide) ?_
                                  refine s_aload_n (pc := 636) (k0 := 1) (i := 1) rfl 1 rfl (show decode cL_law 636 = .ok (.aload_n 1, 1) by decide +kernel) ?_
                                  refine s_aload_n (pc := 637) (k0 := 0) (i := 0) rfl 0 rfl (show decode cL_law 637 = .ok (.aload_n 0, 1) by decide +kernel) ?_
                                  refine s_iload_n (pc := 638) (k0 := 3) (i := 3) rfl 3 rfl (show decode cL_law 638 = .ok (.iload_n 3, 1) by decide +kernel) ?_
                                  refine s_iconst (pc := 639) (n := 1) (v := (1 : Int32)) (by decide) (show decode cL_law 639 = .ok (.iconst 1, 1) by decide +kernel) ?_
                                  refine s_iadd (pc := 640) (show decode cL_law 640 = .ok (.iadd, 1) by decide +kernel) ?_
                                  refine S_gd (fun c193 => ?_)
                                  refine s_sld (pc := 641) c193 rfl (show decode cL_law 641 = .ok (.iaload, 1) by decide +kernel) ?_
                                  refine S_gd (fun c194 => ?_)
                                  refine s_cVi (pc := 642) [.int (xs (a3 + (1 : Int32)).toNatClampNeg)] (tX6_lay a1 (xs (a3 + (1 : Int32)).toNatClampNeg) h) c194 cw_L_74 rfl ⟨⟨Nat.le_of_ble_eq_true rfl, Nat.le_of_ble_eq_true rfl⟩, Nat.le_of_ble_eq_true rfl⟩ rfl (show decode cL_law 642 = .ok (.invokevirtual 74, 3) by decide +kernel) (fun w197 g195 e196 => ?_)
                                  refine s_aload_n (pc := 645) (k0 := 2) (i := 2) rfl 2 rfl (show decode cL_law 645 = .ok (.aload_n 2, 1) by decide +kernel) ?_
                                  refine s_aload_n (pc := 646) (k0 := 0) (i := 0) rfl 0 rfl (show decode cL_law 646 = .ok (.aload_n 0, 1) by decide +kernel) ?_
                                  refine s_iload_n (pc := 647) (k0 := 3) (i := 3) rfl 3 rfl (show decode cL_law 647 = .ok (.iload_n 3, 1) by decide +kernel) ?_
                                  refine s_iconst (pc := 648) (n := 1) (v := (1 : Int32)) (by decide) (show decode cL_law 648 = .ok (.iconst 1, 1) by decide +kernel) ?_
                                  refine s_iadd (pc := 649) (show decode cL_law 649 = .ok (.iadd, 1) by decide +kernel) ?_
                                  refine s_sld (pc := 650) c193 rfl (show decode cL_law 650 = .ok (.iaload, 1) by decide +kernel) ?_
                                  refine S_gd (fun c198 => ?_)
                                  refine s_cVi (pc := 651) [.int (xs (a3 + (1 : Int32)).toNatClampNeg)] (tX7_lay_ a2 (xs (a3 + (1 : Int32)).toNatClampNeg) g195) c198 cw_L_77 rfl ⟨⟨Nat.le_of_ble_eq_true rfl, Nat.le_of_ble_eq_true rfl⟩, Nat.le_of_ble_eq_true rfl⟩ rfl (show decode cL_law 651 = .ok (.invokevirtual 77, 3) by decide +kernel) (fun w201 g199 e200 => ?_)
                                  refine s_icmp_eq (pc := 654) (off := 639) 1293 (show decode cL_law 654 = .ok (.if_icmp .eq 639, 3) by decide +kernel) (by decide) (fun _ => ?_) (fun _ => ?_)
                                  · exact pL_law_b1293 n xs hr18 a1 a2 a3 g199
                                  · refine s_iconst (pc := 657) (n := 0) (v := (0 : Int32)) (by decide) (show decode cL_law 657 = .ok (.iconst 0, 1) by decide +kernel) ?_
                                    exact s_zret (pc := 658) (by decide) rfl (show decode cL_law 658 = .ok (.ireturn, 1) by decide +kernel)
                                · refine S_ite (fun e => ?_) (fun ne15 => ?_)
                                  · refine s_tableIn (pc := 33) (dflt := 1260) (lo := 0) (hi := 33) (offs := #[151, 214, 237, 260, 273, 316, 339, 372, 405, 438, 461, 484, 527, 570, 603, 626, 649, 662, 685, 708, 742, 785, 829, 862, 906, 939, 972, 1016, 1050, 1094, 1137, 1191, 1224, 1247]) (len := 151) (off := 626) 659 (show decode cL_law 33 = .ok (.tableswitch 1260 0 33 #[151, 214, 237, 260, 273, 316, 339, 372, 405, 438, 461, 484, 527, 570, 603, 626, 649, 662, 685, 708, 742, 785, 829, 862, 906, 939, 972, 1016, 1050, 1094, 1137, 1191, 1224, 1247], 151) by decide +kernel) (by rw [e]; decide) (by rw [e]; decide) (by rw [e]; rfl) (by decide) ?_
                                    refine s_aload_n (pc := 659) (k0 := 1) (i := 1) rfl 1 rfl (show decode cL_law 659 = .ok (.aload_n 1, 1) by decide +kernel) ?_
                                    refine s_aload_n (pc := 660) (k0 := 0) (i := 0) rfl 0 rfl (show decode cL_law 660 = .ok (.aload_n 0, 1) by decide +kernel) ?_
                                    refine s_iload_n (pc := 661) (k0 := 3) (i := 3) rfl 3 rfl (show decode cL_law 661 = .ok (.iload_n 3, 1) by decide +kernel) ?_
                                    refine s_iconst (pc := 662) (n := 1) (v := (1 : Int32)) (by decide) (show decode cL_law 662 = .ok (.iconst 1, 1) by decide +kernel) ?_
                                    refine s_iadd (pc := 663) (show decode cL_law 663 = .ok (.iadd, 1) by decide +kernel) ?_
                                    refine S_gd (fun c184 => ?_)
                                    refine s_sld (pc := 664) c184 rfl (show decode cL_law 664 = .ok (.iaload, 1) by decide +kernel) ?_
                                    refine S_gd (fun c185 => ?_)
                                    refine s_cVi (pc := 665) [.int (xs (a3 + (1 : Int32)).toNatClampNeg)] (tX6_put a1 (xs (a3 + (1 : Int32)).toNatClampNeg) h) c185 cw_L_78 rfl ⟨⟨Nat.le_of_ble_eq_true rfl, Nat.le_of_ble_eq_true rfl⟩, Nat.le_of_ble_eq_true rfl⟩ rfl (show decode cL_law 665 = .ok (.invokevirtual 78, 3) by decide +kernel) (fun w188 g186 e187 => ?_)
                                    refine s_aload_n (pc := 668) (k0 := 2) (i := 2) rfl 2 rfl (show decode cL_law 668 = .ok (.aload_n 2, 1) by decide +kernel) ?_
                                    refine s_aload_n (pc := 669) (k0 := 0) (i := 0) rfl 0 rfl (show decode cL_law 669 = .ok (.aload_n 0, 1) by decide +kernel) ?_
                                    refine s_iload_n (pc := 670) (k0 := 3) (i := 3) rfl 3 rfl (show decode cL_law 670 = .ok (.iload_n 3, 1) by decide +kernel) ?_
                                    refine s_iconst (pc := 671) (n := 1) (v := (1 : Int32)) (by decide) (show decode cL_law 671 = .ok (.iconst 1, 1) by decide +kernel) ?_
                                    refine s_iadd (pc := 672) (show decode cL_law 672 = .ok (.iadd, 1) by decide +kernel) ?_
                                    refine s_sld (pc := 673) c184 rfl (show decode cL_law 673 = .ok (.iaload, 1) by decide +kernel) ?_
                                    refine S_gd (fun c189 => ?_)
                                    refine s_cVi (pc := 674) [.int (xs (a3 + (1 : Int32)).toNatClampNeg)] (tX7_put a2 (xs (a3 + (1 : Int32)).toNatClampNeg) g186) c189 cw_L_81 rfl ⟨⟨Nat.le_of_ble_eq_true rfl, Nat.le_of_ble_eq_true rfl⟩, Nat.le_of_ble_eq_true rfl⟩ rfl (show decode cL_law 674 = .ok (.invokevirtual 81, 3) by decide +kernel) (fun w192 g190 e191 => ?_)
                                    refine s_icmp_eq (pc := 677) (off := 616) 1293 (show decode cL_law 677 = .ok (.if_icmp .eq 616, 3) by decide +kernel) (by decide) (fun _ => ?_) (fun _ => ?_)
                                    · exact pL_law_b1293 n xs hr18 a1 a2 a3 g190
                                    · refine s_iconst (pc := 680) (n := 0) (v := (0 : Int32)) (by decide) (show decode cL_law 680 = .ok (.iconst 0, 1) by decide +kernel) ?_
                                      exact s_zret (pc := 681) (by decide) rfl (show decode cL_law 681 = .ok (.ireturn, 1) by decide +kernel)
                                  · refine S_ite (fun e => ?_) (fun ne16 => ?_)
                                    · refine s_tableIn (pc := 33) (dflt := 1260) (lo := 0) (hi := 33) (offs := #[151, 214, 237, 260, 273, 316, 339, 372, 405, 438, 461, 484, 527, 570, 603, 626, 649, 662, 685, 708, 742, 785, 829, 862, 906, 939, 972, 1016, 1050, 1094, 1137, 1191, 1224, 1247]) (len := 151) (off := 649) 682 (show decode cL_law 33 = .ok (.tableswitch 1260 0 33 #[151, 214, 237, 260, 273, 316, 339, 372, 405, 438, 461, 484, 527, 570, 603, 626, 649, 662, 685, 708, 742, 785, 829, 862, 906, 939, 972, 1016, 1050, 1094, 1137, 1191, 1224, 1247], 151) by decide +kernel) (by rw [e]; decide) (by rw [e]; decide) (by rw [e]; rfl) (by decide) ?_
                                      refine s_aload_n (pc := 682) (k0 := 1) (i := 1) rfl 1 rfl (show decode cL_law 682 = .ok (.aload_n 1, 1) by decide +kernel) ?_
                                      refine S_gd (fun c176 => ?_)
                                      refine s_cVi (pc := 683) [] (tX6_undo a1 h) c176 cw_L_82 rfl ⟨⟨Nat.le_of_ble_eq_true rfl, Nat.le_of_ble_eq_true rfl⟩, Nat.le_of_ble_eq_true rfl⟩ rfl (show decode cL_law 683 = .ok (.invokevirtual 82, 3) by decide +kernel) (fun w179 g177 e178 => ?_)
                                      refine s_aload_n (pc := 686) (k0 := 2) (i := 2) rfl 2 rfl (show decode cL_law 686 = .ok (.aload_n 2, 1) by decide +kernel) ?_
                                      refine S_gd (fun c180 => ?_)
                                      refine s_cVi (pc := 687) [] (tX7_undo a2 g177) c180 cw_L_85 rfl ⟨⟨Nat.le_of_ble_eq_true rfl, Nat.le_of_ble_eq_true rfl⟩, Nat.le_of_ble_eq_true rfl⟩ rfl (show decode cL_law 687 = .ok (.invokevirtual 85, 3) by decide +kernel) (fun w183 g181 e182 => ?_)
                                      refine s_icmp_eq (pc := 690) (off := 603) 1293 (show decode cL_law 690 = .ok (.if_icmp .eq 603, 3) by decide +kernel) (by decide) (fun _ => ?_) (fun _ => ?_)
                                      · exact pL_law_b1293 n xs hr18 a1 a2 a3 g181
                                      · refine s_iconst (pc := 693) (n := 0) (v := (0 : Int32)) (by decide) (show decode cL_law 693 = .ok (.iconst 0, 1) by decide +kernel) ?_
                                        exact s_zret (pc := 694) (by decide) rfl (show decode cL_law 694 = .ok (.ireturn, 1) by decide +kernel)
                                    · refine S_ite (fun e => ?_) (fun ne17 => ?_)
                                      · refine s_tableIn (pc := 33) (dflt := 1260) (lo := 0) (hi := 33) (offs := #[151, 214, 237, 260, 273, 316, 339, 372, 405, 438, 461, 484, 527, 570, 603, 626, 649, 662, 685, 708, 742, 785, 829, 862, 906, 939, 972, 1016, 1050, 1094, 1137, 1191, 1224, 1247]) (len := 151) (off := 662) 695 (show decode cL_law 33 = .ok (.tableswitch 1260 0 33 #[151, 214, 237, 260, 273, 316, 339, 372, 405, 438, 461, 484, 527, 570, 603, 626, 649, 662, 685, 708, 742, 785, 829, 862, 906, 939, 972, 1016, 1050, 1094, 1137, 1191, 1224, 1247], 151) by decide +kernel) (by rw [e]; decide) (by rw [e]; decide) (by rw [e]; rfl) (by decide) ?_
                                        refine s_aload_n (pc := 695) (k0 := 1) (i := 1) rfl 1 rfl (show decode cL_law 695 = .ok (.aload_n 1, 1) by decide +kernel) ?_
                                        refine s_aload_n (pc := 696) (k0 := 0) (i := 0) rfl 0 rfl (show decode cL_law 696 = .ok (.aload_n 0, 1) by decide +kernel) ?_
                                        refine s_iload_n (pc := 697) (k0 := 3) (i := 3) rfl 3 rfl (show decode cL_law 697 = .ok (.iload_n 3, 1) by decide +kernel) ?_
                                        refine s_iconst (pc := 698) (n := 1) (v := (1 : Int32)) (by decide) (show decode cL_law 698 = .ok (.iconst 1, 1) by decide +kernel) ?_
                                        refine s_iadd (pc := 699) (show decode cL_law 699 = .ok (.iadd, 1) by decide +kernel) ?_
                                        refine S_gd (fun c167 => ?_)
                                        refine s_sld (pc := 700) c167 rfl (show decode cL_law 700 = .ok (.iaload, 1) by decide +kernel) ?_
                                        refine S_gd (fun c168 => ?_)
                                        refine s_cVi (pc := 701) [.int (xs (a3 + (1 : Int32)).toNatClampNeg)] (tX6_image a1 (xs (a3 + (1 : Int32)).toNatClampNeg) h) c168 cw_L_86 rfl ⟨⟨Nat.le_of_ble_eq_true rfl, Nat.le_of_ble_eq_true rfl⟩, Nat.le_of_ble_eq_true rfl⟩ rfl (show decode cL_law 701 = .ok (.invokevirtual 86, 3) by decide +kernel) (fun w171 g169 e170 => ?_)
                                        refine s_aload_n (pc := 704) (k0 := 2) (i := 2) rfl 2 rfl (show decode cL_law 704 = .ok (.aload_n 2, 1) by decide +kernel) ?_
                                        refine s_aload_n (pc := 705) (k0 := 0) (i := 0) rfl 0 rfl (show decode cL_law 705 = .ok (.aload_n 0, 1) by decide +kernel) ?_
                                        refine s_iload_n (pc := 706) (k0 := 3) (i := 3) rfl 3 rfl (show decode cL_law 706 = .ok (.iload_n 3, 1) by decide +kernel) ?_
                                        refine s_iconst (pc := 707) (n := 1) (v := (1 : Int32)) (by decide) (show decode cL_law 707 = .ok (.iconst 1, 1) by decide +kernel) ?_
                                        refine s_iadd (pc := 708) (show decode cL_law 708 = .ok (.iadd, 1) by decide +kernel) ?_
                                        refine s_sld (pc := 709) c167 rfl (show decode cL_law 709 = .ok (.iaload, 1) by decide +kernel) ?_
                                        refine S_gd (fun c172 => ?_)
                                        refine s_cVi (pc := 710) [.int (xs (a3 + (1 : Int32)).toNatClampNeg)] (tX7_image a2 (xs (a3 + (1 : Int32)).toNatClampNeg) g169) c172 cw_L_89 rfl ⟨⟨Nat.le_of_ble_eq_true rfl, Nat.le_of_ble_eq_true rfl⟩, Nat.le_of_ble_eq_true rfl⟩ rfl (show decode cL_law 710 = .ok (.invokevirtual 89, 3) by decide +kernel) (fun w175 g173 e174 => ?_)
                                        refine s_icmp_eq (pc := 713) (off := 580) 1293 (show decode cL_law 713 = .ok (.if_icmp .eq 580, 3) by decide +kernel) (by decide) (fun _ => ?_) (fun _ => ?_)
                                        · exact pL_law_b1293 n xs hr18 a1 a2 a3 g173
                                        · refine s_iconst (pc := 716) (n := 0) (v := (0 : Int32)) (by decide) (show decode cL_law 716 = .ok (.iconst 0, 1) by decide +kernel) ?_
                                          exact s_zret (pc := 717) (by decide) rfl (show decode cL_law 717 = .ok (.ireturn, 1) by decide +kernel)
                                      · refine S_ite (fun e => ?_) (fun ne18 => ?_)
                                        · refine s_tableIn (pc := 33) (dflt := 1260) (lo := 0) (hi := 33) (offs := #[151, 214, 237, 260, 273, 316, 339, 372, 405, 438, 461, 484, 527, 570, 603, 626, 649, 662, 685, 708, 742, 785, 829, 862, 906, 939, 972, 1016, 1050, 1094, 1137, 1191, 1224, 1247]) (len := 151) (off := 685) 718 (show decode cL_law 33 = .ok (.tableswitch 1260 0 33 #[151, 214, 237, 260, 273, 316, 339, 372, 405, 438, 461, 484, 527, 570, 603, 626, 649, 662, 685, 708, 742, 785, 829, 862, 906, 939, 972, 1016, 1050, 1094, 1137, 1191, 1224, 1247], 151) by decide +kernel) (by rw [e]; decide) (by rw [e]; decide) (by rw [e]; rfl) (by decide) ?_
                                          refine s_aload_n (pc := 718) (k0 := 1) (i := 1) rfl 1 rfl (show decode cL_law 718 = .ok (.aload_n 1, 1) by decide +kernel) ?_
                                          refine s_aload_n (pc := 719) (k0 := 0) (i := 0) rfl 0 rfl (show decode cL_law 719 = .ok (.aload_n 0, 1) by decide +kernel) ?_
                                          refine s_iload_n (pc := 720) (k0 := 3) (i := 3) rfl 3 rfl (show decode cL_law 720 = .ok (.iload_n 3, 1) by decide +kernel) ?_
                                          refine s_iconst (pc := 721) (n := 1) (v := (1 : Int32)) (by decide) (show decode cL_law 721 = .ok (.iconst 1, 1) by decide +kernel) ?_
                                          refine s_iadd (pc := 722) (show decode cL_law 722 = .ok (.iadd, 1) by decide +kernel) ?_
                                          refine S_gd (fun c158 => ?_)
                                          refine s_sld (pc := 723) c158 rfl (show decode cL_law 723 = .ok (.iaload, 1) by decide +kernel) ?_
                                          refine S_gd (fun c159 => ?_)
                                          refine s_cVi (pc := 724) [.int (xs (a3 + (1 : Int32)).toNatClampNeg)] (tX6_back a1 (xs (a3 + (1 : Int32)).toNatClampNeg) h) c159 cw_L_90 rfl ⟨⟨Nat.le_of_ble_eq_true rfl, Nat.le_of_ble_eq_true rfl⟩, Nat.le_of_ble_eq_true rfl⟩ rfl (show decode cL_law 724 = .ok (.invokevirtual 90, 3) by decide +kernel) (fun w162 g160 e161 => ?_)
                                          refine s_aload_n (pc := 727) (k0 := 2) (i := 2) rfl 2 rfl (show decode cL_law 727 = .ok (.aload_n 2, 1) by decide +kernel) ?_
                                          refine s_aload_n (pc := 728) (k0 := 0) (i := 0) rfl 0 rfl (show decode cL_law 728 = .ok (.aload_n 0, 1) by decide +kernel) ?_
                                          refine s_iload_n (pc := 729) (k0 := 3) (i := 3) rfl 3 rfl (show decode cL_law 729 = .ok (.iload_n 3, 1) by decide +kernel) ?_
                                          refine s_iconst (pc := 730) (n := 1) (v := (1 : Int32)) (by decide) (show decode cL_law 730 = .ok (.iconst 1, 1) by decide +kernel) ?_
                                          refine s_iadd (pc := 731) (show decode cL_law 731 = .ok (.iadd, 1) by decide +kernel) ?_
                                          refine s_sld (pc := 732) c158 rfl (show decode cL_law 732 = .ok (.iaload, 1) by decide +kernel) ?_
                                          refine S_gd (fun c163 => ?_)
                                          refine s_cVi (pc := 733) [.int (xs (a3 + (1 : Int32)).toNatClampNeg)] (tX7_back a2 (xs (a3 + (1 : Int32)).toNatClampNeg) g160) c163 cw_L_93 rfl ⟨⟨Nat.le_of_ble_eq_true rfl, Nat.le_of_ble_eq_true rfl⟩, Nat.le_of_ble_eq_true rfl⟩ rfl (show decode cL_law 733 = .ok (.invokevirtual 93, 3) by decide +kernel) (fun w166 g164 e165 => ?_)
                                          refine s_icmp_eq (pc := 736) (off := 557) 1293 (show decode cL_law 736 = .ok (.if_icmp .eq 557, 3) by decide +kernel) (by decide) (fun _ => ?_) (fun _ => ?_)
                                          · exact pL_law_b1293 n xs hr18 a1 a2 a3 g164
                                          · refine s_iconst (pc := 739) (n := 0) (v := (0 : Int32)) (by decide) (show decode cL_law 739 = .ok (.iconst 0, 1) by decide +kernel) ?_
                                            exact s_zret (pc := 740) (by decide) rfl (show decode cL_law 740 = .ok (.ireturn, 1) by decide +kernel)
                                        · refine S_ite (fun e => ?_) (fun ne19 => ?_)
                                          · refine s_tableIn (pc := 33) (dflt := 1260) (lo := 0) (hi := 33) (offs := #[151, 214, 237, 260, 273, 316, 339, 372, 405, 438, 461, 484, 527, 570, 603, 626, 649, 662, 685, 708, 742, 785, 829, 862, 906, 939, 972, 1016, 1050, 1094, 1137, 1191, 1224, 1247]) (len := 151) (off := 708) 741 (show decode cL_law 33 = .ok (.tableswitch 1260 0 33 #[151, 214, 237, 260, 273, 316, 339, 372, 405, 438, 461, 484, 527, 570, 603, 626, 649, 662, 685, 708, 742, 785, 829, 862, 906, 939, 972, 1016, 1050, 1094, 1137, 1191, 1224, 1247], 151) by decide +kernel) (by rw [e]; decide) (by rw [e]; decide) (by rw [e]; rfl) (by decide) ?_
                                            refine s_aload_n (pc := 741) (k0 := 1) (i := 1) rfl 1 rfl (show decode cL_law 741 = .ok (.aload_n 1, 1) by decide +kernel) ?_
                                            refine s_aload_n (pc := 742) (k0 := 0) (i := 0) rfl 0 rfl (show decode cL_law 742 = .ok (.aload_n 0, 1) by decide +kernel) ?_
                                            refine s_iload_n (pc := 743) (k0 := 3) (i := 3) rfl 3 rfl (show decode cL_law 743 = .ok (.iload_n 3, 1) by decide +kernel) ?_
                                            refine s_iconst (pc := 744) (n := 1) (v := (1 : Int32)) (by decide) (show decode cL_law 744 = .ok (.iconst 1, 1) by decide +kernel) ?_
                                            refine s_iadd (pc := 745) (show decode cL_law 745 = .ok (.iadd, 1) by decide +kernel) ?_
                                            refine S_gd (fun c148 => ?_)
                                            refine s_sld (pc := 746) c148 rfl (show decode cL_law 746 = .ok (.iaload, 1) by decide +kernel) ?_
                                            refine s_aload_n (pc := 747) (k0 := 0) (i := 0) rfl 0 rfl (show decode cL_law 747 = .ok (.aload_n 0, 1) by decide +kernel) ?_
                                            refine s_iload_n (pc := 748) (k0 := 3) (i := 3) rfl 3 rfl (show decode cL_law 748 = .ok (.iload_n 3, 1) by decide +kernel) ?_
                                            refine s_iconst (pc := 749) (n := 2) (v := (2 : Int32)) (by decide) (show decode cL_law 749 = .ok (.iconst 2, 1) by decide +kernel) ?_
                                            refine s_iadd (pc := 750) (show decode cL_law 750 = .ok (.iadd, 1) by decide +kernel) ?_
                                            refine S_gd (fun c149 => ?_)
                                            refine s_sld (pc := 751) c149 rfl (show decode cL_law 751 = .ok (.iaload, 1) by decide +kernel) ?_
                                            refine S_gd (fun c150 => ?_)
                                            refine s_cVj (pc := 752) [.int (xs (a3 + (1 : Int32)).toNatClampNeg), .int (xs (a3 + (2 : Int32)).toNatClampNeg)] (tX6_paper a1 (xs (a3 + (1 : Int32)).toNatClampNeg) (xs (a3 + (2 : Int32)).toNatClampNeg) h) c150 cw_L_94 rfl ⟨⟨Nat.le_of_ble_eq_true rfl, Nat.le_of_ble_eq_true rfl⟩, Nat.le_of_ble_eq_true rfl⟩ rfl (show decode cL_law 752 = .ok (.invokevirtual 94, 3) by decide +kernel) (fun w153 g151 e152 => ?_)
                                            refine s_aload_n (pc := 755) (k0 := 2) (i := 2) rfl 2 rfl (show decode cL_law 755 = .ok (.aload_n 2, 1) by decide +kernel) ?_
                                            refine s_aload_n (pc := 756) (k0 := 0) (i := 0) rfl 0 rfl (show decode cL_law 756 = .ok (.aload_n 0, 1) by decide +kernel) ?_
                                            refine s_iload_n (pc := 757) (k0 := 3) (i := 3) rfl 3 rfl (show decode cL_law 757 = .ok (.iload_n 3, 1) by decide +kernel) ?_
                                            refine s_iconst (pc := 758) (n := 1) (v := (1 : Int32)) (by decide) (show decode cL_law 758 = .ok (.iconst 1, 1) by decide +kernel) ?_
                                            refine s_iadd (pc := 759) (show decode cL_law 759 = .ok (.iadd, 1) by decide +kernel) ?_
                                            refine s_sld (pc := 760) c148 rfl (show decode cL_law 760 = .ok (.iaload, 1) by decide +kernel) ?_
                                            refine s_aload_n (pc := 761) (k0 := 0) (i := 0) rfl 0 rfl (show decode cL_law 761 = .ok (.aload_n 0, 1) by decide +kernel) ?_
                                            refine s_iload_n (pc := 762) (k0 := 3) (i := 3) rfl 3 rfl (show decode cL_law 762 = .ok (.iload_n 3, 1) by decide +kernel) ?_
                                            refine s_iconst (pc := 763) (n := 2) (v := (2 : Int32)) (by decide) (show decode cL_law 763 = .ok (.iconst 2, 1) by decide +kernel) ?_
                                            refine s_iadd (pc := 764) (show decode cL_law 764 = .ok (.iadd, 1) by decide +kernel) ?_
                                            refine s_sld (pc := 765) c149 rfl (show decode cL_law 765 = .ok (.iaload, 1) by decide +kernel) ?_
                                            refine S_gd (fun c154 => ?_)
                                            refine s_cVj (pc := 766) [.int (xs (a3 + (1 : Int32)).toNatClampNeg), .int (xs (a3 + (2 : Int32)).toNatClampNeg)] (tX7_paper a2 (xs (a3 + (1 : Int32)).toNatClampNeg) (xs (a3 + (2 : Int32)).toNatClampNeg) g151) c154 cw_L_98 rfl ⟨⟨Nat.le_of_ble_eq_true rfl, Nat.le_of_ble_eq_true rfl⟩, Nat.le_of_ble_eq_true rfl⟩ rfl (show decode cL_law 766 = .ok (.invokevirtual 98, 3) by decide +kernel) (fun w157 g155 e156 => ?_)
                                            refine s_lcmp (pc := 769) (show decode cL_law 769 = .ok (.lcmp, 1) by decide +kernel) ?_
                                            refine s_if_eq (pc := 770) (off := 523) 1293 (show decode cL_law 770 = .ok (.ifCond .eq 523, 3) by decide +kernel) (by decide) (fun _ => ?_) (fun _ => ?_)
                                            · exact pL_law_b1293 n xs hr18 a1 a2 a3 g155
                                            · refine s_iconst (pc := 773) (n := 0) (v := (0 : Int32)) (by decide) (show decode cL_law 773 = .ok (.iconst 0, 1) by decide +kernel) ?_
                                              exact s_zret (pc := 774) (by decide) rfl (show decode cL_law 774 = .ok (.ireturn, 1) by decide +kernel)
                                          · refine S_ite (fun e => ?_) (fun ne20 => ?_)
                                            · refine s_tableIn (pc := 33) (dflt := 1260) (lo := 0) (hi := 33) (offs := #[151, 214, 237, 260, 273, 316, 339, 372, 405, 438, 461, 484, 527, 570, 603, 626, 649, 662, 685, 708, 742, 785, 829, 862, 906, 939, 972, 1016, 1050, 1094, 1137, 1191, 1224, 1247]) (len := 151) (off := 742) 775 (show decode cL_law 33 = .ok (.tableswitch 1260 0 33 #[151, 214, 237, 260, 273, 316, 339, 372, 405, 438, 461, 484, 527, 570, 603, 626, 649, 662, 685, 708, 742, 785, 829, 862, 906, 939, 972, 1016, 1050, 1094, 1137, 1191, 1224, 1247], 151) by decide +kernel) (by rw [e]; decide) (by rw [e]; decide) (by rw [e]; rfl) (by decide) ?_
                                              refine s_aload_n (pc := 775) (k0 := 1) (i := 1) rfl 1 rfl (show decode cL_law 775 = .ok (.aload_n 1, 1) by decide +kernel) ?_
                                              refine s_aload_n (pc := 776) (k0 := 0) (i := 0) rfl 0 rfl (show decode cL_law 776 = .ok (.aload_n 0, 1) by decide +kernel) ?_
                                              refine s_iload_n (pc := 777) (k0 := 3) (i := 3) rfl 3 rfl (show decode cL_law 777 = .ok (.iload_n 3, 1) by decide +kernel) ?_
                                              refine s_iconst (pc := 778) (n := 1) (v := (1 : Int32)) (by decide) (show decode cL_law 778 = .ok (.iconst 1, 1) by decide +kernel) ?_
                                              refine s_iadd (pc := 779) (show decode cL_law 779 = .ok (.iadd, 1) by decide +kernel) ?_
                                              refine S_gd (fun c137 => ?_)
                                              refine s_sld (pc := 780) c137 rfl (show decode cL_law 780 = .ok (.iaload, 1) by decide +kernel) ?_
                                              refine s_aload_n (pc := 781) (k0 := 0) (i := 0) rfl 0 rfl (show decode cL_law 781 = .ok (.aload_n 0, 1) by decide +kernel) ?_
                                              refine s_iload_n (pc := 782) (k0 := 3) (i := 3) rfl 3 rfl (show decode cL_law 782 = .ok (.iload_n 3, 1) by decide +kernel) ?_
                                              refine s_iconst (pc := 783) (n := 2) (v := (2 : Int32)) (by decide) (show decode cL_law 783 = .ok (.iconst 2, 1) by decide +kernel) ?_
                                              refine s_iadd (pc := 784) (show decode cL_law 784 = .ok (.iadd, 1) by decide +kernel) ?_
                                              refine S_gd (fun c138 => ?_)
                                              refine s_sld (pc := 785) c138 rfl (show decode cL_law 785 = .ok (.iaload, 1) by decide +kernel) ?_
                                              refine s_aload_n (pc := 786) (k0 := 0) (i := 0) rfl 0 rfl (show decode cL_law 786 = .ok (.aload_n 0, 1) by decide +kernel) ?_
                                              refine s_iload_n (pc := 787) (k0 := 3) (i := 3) rfl 3 rfl (show decode cL_law 787 = .ok (.iload_n 3, 1) by decide +kernel) ?_
                                              refine s_iconst (pc := 788) (n := 3) (v := (3 : Int32)) (by decide) (show decode cL_law 788 = .ok (.iconst 3, 1) by decide +kernel) ?_
                                              refine s_iadd (pc := 789) (show decode cL_law 789 = .ok (.iadd, 1) by decide +kernel) ?_
                                              refine S_gd (fun c139 => ?_)
                                              refine s_sld (pc := 790) c139 rfl (show decode cL_law 790 = .ok (.iaload, 1) by decide +kernel) ?_
                                              refine S_gd (fun c140 => ?_)
                                              refine s_cVi (pc := 791) [.int (xs (a3 + (1 : Int32)).toNatClampNeg), .int (xs (a3 + (2 : Int32)).toNatClampNeg), .int (xs (a3 + (3 : Int32)).toNatClampNeg)] (tX6_knot a1 (xs (a3 + (1 : Int32)).toNatClampNeg) (xs (a3 + (2 : Int32)).toNatClampNeg) (xs (a3 + (3 : Int32)).toNatClampNeg) h) c140 cw_L_99 rfl ⟨⟨Nat.le_of_ble_eq_true rfl, Nat.le_of_ble_eq_true rfl⟩, Nat.le_of_ble_eq_true rfl⟩ rfl (show decode cL_law 791 = .ok (.invokevirtual 99, 3) by decide +kernel) (fun w143 g141 e142 => ?_)
                                              refine s_aload_n (pc := 794) (k0 := 2) (i := 2) rfl 2 rfl (show decode cL_law 794 = .ok (.aload_n 2, 1) by decide +kernel) ?_
                                              refine s_aload_n (pc := 795) (k0 := 0) (i := 0) rfl 0 rfl (show decode cL_law 795 = .ok (.aload_n 0, 1) by decide +kernel) ?_
                                              refine s_iload_n (pc := 796) (k0 := 3) (i := 3) rfl 3 rfl (show decode cL_law 796 = .ok (.iload_n 3, 1) by decide +kernel) ?_
                                              refine s_iconst (pc := 797) (n := 1) (v := (1 : Int32)) (by decide) (show decode cL_law 797 = .ok (.iconst 1, 1) by decide +kernel) ?_
                                              refine s_iadd (pc := 798) (show decode cL_law 798 = .ok (.iadd, 1) by decide +kernel) ?_
                                              refine s_sld (pc := 799) c137 rfl (show decode cL_law 799 = .ok (.iaload, 1) by decide +kernel) ?_
                                              refine s_aload_n (pc := 800) (k0 := 0) (i := 0) rfl 0 rfl (show decode cL_law 800 = .ok (.aload_n 0, 1) by decide +kernel) ?_
                                              refine s_iload_n (pc := 801) (k0 := 3) (i := 3) rfl 3 rfl (show decode cL_law 801 = .ok (.iload_n 3, 1) by decide +kernel) ?_
                                              refine s_iconst (pc := 802) (n := 2) (v := (2 : Int32)) (by decide) (show decode cL_law 802 = .ok (.iconst 2, 1) by decide +kernel) ?_
                                              refine s_iadd (pc := 803) (show decode cL_law 803 = .ok (.iadd, 1) by decide +kernel) ?_
                                              refine s_sld (pc := 804) c138 rfl (show decode cL_law 804 = .ok (.iaload, 1) by decide +kernel) ?_
                                              refine s_aload_n (pc := 805) (k0 := 0) (i := 0) rfl 0 rfl (show decode cL_law 805 = .ok (.aload_n 0, 1) by decide +kernel) ?_
                                              refine s_iload_n (pc := 806) (k0 := 3) (i := 3) rfl 3 rfl (show decode cL_law 806 = .ok (.iload_n 3, 1) by decide +kernel) ?_
                                              refine s_iconst (pc := 807) (n := 3) (v := (3 : Int32)) (by decide) (show decode cL_law 807 = .ok (.iconst 3, 1) by decide +kernel) ?_
                                              refine s_iadd (pc := 808) (show decode cL_law 808 = .ok (.iadd, 1) by decide +kernel) ?_
                                              refine s_sld (pc := 809) c139 rfl (show decode cL_law 809 = .ok (.iaload, 1) by decide +kernel) ?_
                                              refine S_gd (fun c144 => ?_)
                                              refine s_cVi (pc := 810) [.int (xs (a3 + (1 : Int32)).toNatClampNeg), .int (xs (a3 + (2 : Int32)).toNatClampNeg), .int (xs (a3 + (3 : Int32)).toNatClampNeg)] (tX7_knot_ a2 (xs (a3 + (1 : Int32)).toNatClampNeg) (xs (a3 + (2 : Int32)).toNatClampNeg) (xs (a3 + (3 : Int32)).toNatClampNeg) g141) c144 cw_L_102 rfl ⟨⟨Nat.le_of_ble_eq_true rfl, Nat.le_of_ble_eq_true rfl⟩, Nat.le_of_ble_eq_true rfl⟩ rfl (show decode cL_law 810 = .ok (.invokevirtual 102, 3) by decide +kernel) (fun w147 g145 e146 => ?_)
                                              refine s_icmp_eq (pc := 813) (off := 480) 1293 (show decode cL_law 813 = .ok (.if_icmp .eq 480, 3) by decide +kernel) (by decide) (fun _ => ?_) (fun _ => ?_)
                                              · exact pL_law_b1293 n xs hr18 a1 a2 a3 g145
                                              · refine s_iconst (pc := 816) (n := 0) (v := (0 : Int32)) (by decide) (show decode cL_law 816 = .ok (.iconst 0, 1) by decide +kernel) ?_
                                                exact s_zret (pc := 817) (by decide) rfl (show decode cL_law 817 = .ok (.ireturn, 1) by decide +kernel)
                                            · refine S_ite (fun e => ?_) (fun ne21 => ?_)
                                              · refine s_tableIn (pc := 33) (dflt := 1260) (lo := 0) (hi := 33) (offs := #[151, 214, 237, 260, 273, 316, 339, 372, 405, 438, 461, 484, 527, 570, 603, 626, 649, 662, 685, 708, 742, 785, 829, 862, 906, 939, 972, 1016, 1050, 1094, 1137, 1191, 1224, 1247]) (len := 151) (off := 785) 818 (show decode cL_law 33 = .ok (.tableswitch 1260 0 33 #[151, 214, 237, 260, 273, 316, 339, 372, 405, 438, 461, 484, 527, 570, 603, 626, 649, 662, 685, 708, 742, 785, 829, 862, 906, 939, 972, 1016, 1050, 1094, 1137, 1191, 1224, 1247], 151) by decide +kernel) (by rw [e]; decide) (by rw [e]; decide) (by rw [e]; rfl) (by decide) ?_
                                                refine s_aload_n (pc := 818) (k0 := 1) (i := 1) rfl 1 rfl (show decode cL_law 818 = .ok (.aload_n 1, 1) by decide +kernel) ?_
                                                refine s_aload_n (pc := 819) (k0 := 0) (i := 0) rfl 0 rfl (show decode cL_law 819 = .ok (.aload_n 0, 1) by decide +kernel) ?_
                                                refine s_iload_n (pc := 820) (k0 := 3) (i := 3) rfl 3 rfl (show decode cL_law 820 = .ok (.iload_n 3, 1) by decide +kernel) ?_
                                                refine s_iconst (pc := 821) (n := 1) (v := (1 : Int32)) (by decide) (show decode cL_law 821 = .ok (.iconst 1, 1) by decide +kernel) ?_
                                                refine s_iadd (pc := 822) (show decode cL_law 822 = .ok (.iadd, 1) by decide +kernel) ?_
                                                refine S_gd (fun c126 => ?_)
                                                refine s_sld (pc := 823) c126 rfl (show decode cL_law 823 = .ok (.iaload, 1) by decide +kernel) ?_
                                                refine s_aload_n (pc := 824) (k0 := 0) (i := 0) rfl 0 rfl (show decode cL_law 824 = .ok (.aload_n 0, 1) by decide +kernel) ?_
                                                refine s_iload_n (pc := 825) (k0 := 3) (i := 3) rfl 3 rfl (show decode cL_law 825 = .ok (.iload_n 3, 1) by decide +kernel) ?_
                                                refine s_iconst (pc := 826) (n := 2) (v := (2 : Int32)) (by decide) (show decode cL_law 826 = .ok (.iconst 2, 1) by decide +kernel) ?_
                                                refine s_iadd (pc := 827) (show decode cL_law 827 = .ok (.iadd, 1) by decide +kernel) ?_
                                                refine S_gd (fun c127 => ?_)
                                                refine s_sld (pc := 828) c127 rfl (show decode cL_law 828 = .ok (.iaload, 1) by decide +kernel) ?_
                                                refine s_aload_n (pc := 829) (k0 := 0) (i := 0) rfl 0 rfl (show decode cL_law 829 = .ok (.aload_n 0, 1) by decide +kernel) ?_
                                                refine s_iload_n (pc := 830) (k0 := 3) (i := 3) rfl 3 rfl (show decode cL_law 830 = .ok (.iload_n 3, 1) by decide +kernel) ?_
                                                refine s_iconst (pc := 831) (n := 3) (v := (3 : Int32)) (by decide) (show decode cL_law 831 = .ok (.iconst 3, 1) by decide +kernel) ?_
                                                refine s_iadd (pc := 832) (show decode cL_law 832 = .ok (.iadd, 1) by decide +kernel) ?_
                                                refine S_gd (fun c128 => ?_)
                                                refine s_sld (pc := 833) c128 rfl (show decode cL_law 833 = .ok (.iaload, 1) by decide +kernel) ?_
                                                refine S_gd (fun c129 => ?_)
                                                refine s_cVj (pc := 834) [.int (xs (a3 + (1 : Int32)).toNatClampNeg), .int (xs (a3 + (2 : Int32)).toNatClampNeg), .int (xs (a3 + (3 : Int32)).toNatClampNeg)] (tX6_value a1 (xs (a3 + (1 : Int32)).toNatClampNeg) (xs (a3 + (2 : Int32)).toNatClampNeg) (xs (a3 + (3 : Int32)).toNatClampNeg) h) c129 cw_L_103 rfl ⟨⟨Nat.le_of_ble_eq_true rfl, Nat.le_of_ble_eq_true rfl⟩, Nat.le_of_ble_eq_true rfl⟩ rfl (show decode cL_law 834 = .ok (.invokevirtual 103, 3) by decide +kernel) (fun w132 g130 e131 => ?_)
                                                refine s_aload_n (pc := 837) (k0 := 2) (i := 2) rfl 2 rfl (show decode cL_law 837 = .ok (.aload_n 2, 1) by decide +kernel) ?_
                                                refine s_aload_n (pc := 838) (k0 := 0) (i := 0) rfl 0 rfl (show decode cL_law 838 = .ok (.aload_n 0, 1) by decide +kernel) ?_
                                                refine s_iload_n (pc := 839) (k0 := 3) (i := 3) rfl 3 rfl (show decode cL_law 839 = .ok (.iload_n 3, 1) by decide +kernel) ?_
                                                refine s_iconst (pc := 840) (n := 1) (v := (1 : Int32)) (by decide) (show decode cL_law 840 = .ok (.iconst 1, 1) by decide +kernel) ?_
                                                refine s_iadd (pc := 841) (show decode cL_law 841 = .ok (.iadd, 1) by decide +kernel) ?_
                                                refine s_sld (pc := 842) c126 rfl (show decode cL_law 842 = .ok (.iaload, 1) by decide +kernel) ?_
                                                refine s_aload_n (pc := 843) (k0 := 0) (i := 0) rfl 0 rfl (show decode cL_law 843 = .ok (.aload_n 0, 1) by decide +kernel) ?_
                                                refine s_iload_n (pc := 844) (k0 := 3) (i := 3) rfl 3 rfl (show decode cL_law 844 = .ok (.iload_n 3, 1) by decide +kernel) ?_
                                                refine s_iconst (pc := 845) (n := 2) (v := (2 : Int32)) (by decide) (show decode cL_law 845 = .ok (.iconst 2, 1) by decide +kernel) ?_
                                                refine s_iadd (pc := 846) (show decode cL_law 846 = .ok (.iadd, 1) by decide +kernel) ?_
                                                refine s_sld (pc := 847) c127 rfl (show decode cL_law 847 = .ok (.iaload, 1) by decide +kernel) ?_
                                                refine s_aload_n (pc := 848) (k0 := 0) (i := 0) rfl 0 rfl (show decode cL_law 848 = .ok (.aload_n 0, 1) by decide +kernel) ?_
                                                refine s_iload_n (pc := 849) (k0 := 3) (i := 3) rfl 3 rfl (show decode cL_law 849 = .ok (.iload_n 3, 1) by decide +kernel) ?_
                                                refine s_iconst (pc := 850) (n := 3) (v := (3 : Int32)) (by decide) (show decode cL_law 850 = .ok (.iconst 3, 1) by decide +kernel) ?_
                                                refine s_iadd (pc := 851) (show decode cL_law 851 = .ok (.iadd, 1) by decide +kernel) ?_
                                                refine s_sld (pc := 852) c128 rfl (show decode cL_law 852 = .ok (.iaload, 1) by decide +kernel) ?_
                                                refine S_gd (fun c133 => ?_)
                                                refine s_cVj (pc := 853) [.int (xs (a3 + (1 : Int32)).toNatClampNeg), .int (xs (a3 + (2 : Int32)).toNatClampNeg), .int (xs (a3 + (3 : Int32)).toNatClampNeg)] (tX7_value a2 (xs (a3 + (1 : Int32)).toNatClampNeg) (xs (a3 + (2 : Int32)).toNatClampNeg) (xs (a3 + (3 : Int32)).toNatClampNeg) g130) c133 cw_L_107 rfl ⟨⟨Nat.le_of_ble_eq_true rfl, Nat.le_of_ble_eq_true rfl⟩, Nat.le_of_ble_eq_true rfl⟩ rfl (show decode cL_law 853 = .ok (.invokevirtual 107, 3) by decide +kernel) (fun w136 g134 e135 => ?_)
                                                refine s_lcmp (pc := 856) (show decode cL_law 856 = .ok (.lcmp, 1) by decide +kernel) ?_
                                                refine s_if_eq (pc := 857) (off := 436) 1293 (show decode cL_law 857 = .ok (.ifCond .eq 436, 3) by decide +kernel) (by decide) (fun _ => ?_) (fun _ => ?_)
                                                · exact pL_law_b1293 n xs hr18 a1 a2 a3 g134
                                                · refine s_iconst (pc := 860) (n := 0) (v := (0 : Int32)) (by decide) (show decode cL_law 860 = .ok (.iconst 0, 1) by decide +kernel) ?_
                                                  exact s_zret (pc := 861) (by decide) rfl (show decode cL_law 861 = .ok (.ireturn, 1) by decide +kernel)
                                              · refine S_ite (fun e => ?_) (fun ne22 => ?_)
                                                · refine s_tableIn (pc := 33) (dflt := 1260) (lo := 0) (hi := 33) (offs := #[151, 214, 237, 260, 273, 316, 339, 372, 405, 438, 461, 484, 527, 570, 603, 626, 649, 662, 685, 708, 742, 785, 829, 862, 906, 939, 972, 1016, 1050, 1094, 1137, 1191, 1224, 1247]) (len := 151) (off := 829) 862 (show decode cL_law 33 = .ok (.tableswitch 1260 0 33 #[151, 214, 237, 260, 273, 316, 339, 372, 405, 438, 461, 484, 527, 570, 603, 626, 649, 662, 685, 708, 742, 785, 829, 862, 906, 939, 972, 1016, 1050, 1094, 1137, 1191, 1224, 1247], 151) by decide +kernel) (by rw [e]; decide) (by rw [e]; decide) (by rw [e]; rfl) (by decide) ?_
                                                  refine s_aload_n (pc := 862) (k0 := 1) (i := 1) rfl 1 rfl (show decode cL_law 862 = .ok (.aload_n 1, 1) by decide +kernel) ?_
                                                  refine s_aload_n (pc := 863) (k0 := 0) (i := 0) rfl 0 rfl (show decode cL_law 863 = .ok (.aload_n 0, 1) by decide +kernel) ?_
                                                  refine s_iload_n (pc := 864) (k0 := 3) (i := 3) rfl 3 rfl (show decode cL_law 864 = .ok (.iload_n 3, 1) by decide +kernel) ?_
                                                  refine s_iconst (pc := 865) (n := 1) (v := (1 : Int32)) (by decide) (show decode cL_law 865 = .ok (.iconst 1, 1) by decide +kernel) ?_
                                                  refine s_iadd (pc := 866) (show decode cL_law 866 = .ok (.iadd, 1) by decide +kernel) ?_
                                                  refine S_gd (fun c116 => ?_)
                                                  refine s_sld (pc := 867) c116 rfl (show decode cL_law 867 = .ok (.iaload, 1) by decide +kernel) ?_
                                                  refine s_aload_n (pc := 868) (k0 := 0) (i := 0) rfl 0 rfl (show decode cL_law 868 = .ok (.aload_n 0, 1) by decide +kernel) ?_
                                                  refine s_iload_n (pc := 869) (k0 := 3) (i := 3) rfl 3 rfl (show decode cL_law 869 = .ok (.iload_n 3, 1) by decide +kernel) ?_
                                                  refine s_iconst (pc := 870) (n := 2) (v := (2 : Int32)) (by decide) (show decode cL_law 870 = .ok (.iconst 2, 1) by decide +kernel) ?_
                                                  refine s_iadd (pc := 871) (show decode cL_law 871 = .ok (.iadd, 1) by decide +kernel) ?_
                                                  refine S_gd (fun c117 => ?_)
                                                  refine s_sld (pc := 872) c117 rfl (show decode cL_law 872 = .ok (.iaload, 1) by decide +kernel) ?_
                                                  refine S_gd (fun c118 => ?_)
                                                  refine s_cVi (pc := 873) [.int (xs (a3 + (1 : Int32)).toNatClampNeg), .int (xs (a3 + (2 : Int32)).toNatClampNeg)] (tX6_bits a1 (xs (a3 + (1 : Int32)).toNatClampNeg) (xs (a3 + (2 : Int32)).toNatClampNeg) h) c118 cw_L_108 rfl ⟨⟨Nat.le_of_ble_eq_true rfl, Nat.le_of_ble_eq_true rfl⟩, Nat.le_of_ble_eq_true rfl⟩ rfl (show decode cL_law 873 = .ok (.invokevirtual 108, 3) by decide +kernel) (fun w121 g119 e120 => ?_)
                                                  refine s_aload_n (pc := 876) (k0 := 2) (i := 2) rfl 2 rfl (show decode cL_law 876 = .ok (.aload_n 2, 1) by decide +kernel) ?_
                                                  refine s_aload_n (pc := 877) (k0 := 0) (i := 0) rfl 0 rfl (show decode cL_law 877 = .ok (.aload_n 0, 1) by decide +kernel) ?_
                                                  refine s_iload_n (pc := 878) (k0 := 3) (i := 3) rfl 3 rfl (show decode cL_law 878 = .ok (.iload_n 3, 1) by decide +kernel) ?_
                                                  refine s_iconst (pc := 879) (n := 1) (v := (1 : Int32)) (by decide) (show decode cL_law 879 = .ok (.iconst 1, 1) by decide +kernel) ?_
                                                  refine s_iadd (pc := 880) (show decode cL_law 880 = .ok (.iadd, 1) by decide +kernel) ?_
                                                  refine s_sld (pc := 881) c116 rfl (show decode cL_law 881 = .ok (.iaload, 1) by decide +kernel) ?_
                                                  refine s_aload_n (pc := 882) (k0 := 0) (i := 0) rfl 0 rfl (show decode cL_law 882 = .ok (.aload_n 0, 1) by decide +kernel) ?_
                                                  refine s_iload_n (pc := 883) (k0 := 3) (i := 3) rfl 3 rfl (show decode cL_law 883 = .ok (.iload_n 3, 1) by decide +kernel) ?_
                                                  refine s_iconst (pc := 884) (n := 2) (v := (2 : Int32)) (by decide) (show decode cL_law 884 = .ok (.iconst 2, 1) by decide +kernel) ?_
                                                  refine s_iadd (pc := 885) (show decode cL_law 885 = .ok (.iadd, 1) by decide +kernel) ?_
                                                  refine s_sld (pc := 886) c117 rfl (show decode cL_law 886 = .ok (.iaload, 1) by decide +kernel) ?_
                                                  refine S_gd (fun c122 => ?_)
                                                  refine s_cVi (pc := 887) [.int (xs (a3 + (1 : Int32)).toNatClampNeg), .int (xs (a3 + (2 : Int32)).toNatClampNeg)] (tX7_bits a2 (xs (a3 + (1 : Int32)).toNatClampNeg) (xs (a3 + (2 : Int32)).toNatClampNeg) g119) c122 cw_L_111 rfl ⟨⟨Nat.le_of_ble_eq_true rfl, Nat.le_of_ble_eq_true rfl⟩, Nat.le_of_ble_eq_true rfl⟩ rfl (show decode cL_law 887 = .ok (.invokevirtual 111, 3) by decide +kernel) (fun w125 g123 e124 => ?_)
                                                  refine s_icmp_eq (pc := 890) (off := 403) 1293 (show decode cL_law 890 = .ok (.if_icmp .eq 403, 3) by decide +kernel) (by decide) (fun _ => ?_) (fun _ => ?_)
                                                  · exact pL_law_b1293 n xs hr18 a1 a2 a3 g123
                                                  · refine s_iconst (pc := 893) (n := 0) (v := (0 : Int32)) (by decide) (show decode cL_law 893 = .ok (.iconst 0, 1) by decide +kernel) ?_
                                                    exact s_zret (pc := 894) (by decide) rfl (show decode cL_law 894 = .ok (.ireturn, 1) by decide +kernel)
                                                · refine S_ite (fun e => ?_) (fun ne23 => ?_)
                                                  · refine s_tableIn (pc := 33) (dflt := 1260) (lo := 0) (hi := 33) (offs := #[151, 214, 237, 260, 273, 316, 339, 372, 405, 438, 461, 484, 527, 570, 603, 626, 649, 662, 685, 708, 742, 785, 829, 862, 906, 939, 972, 1016, 1050, 1094, 1137, 1191, 1224, 1247]) (len := 151) (off := 862) 895 (show decode cL_law 33 = .ok (.tableswitch 1260 0 33 #[151, 214, 237, 260, 273, 316, 339, 372, 405, 438, 461, 484, 527, 570, 603, 626, 649, 662, 685, 708, 742, 785, 829, 862, 906, 939, 972, 1016, 1050, 1094, 1137, 1191, 1224, 1247], 151) by decide +kernel) (by rw [e]; decide) (by rw [e]; decide) (by rw [e]; rfl) (by decide) ?_
                                                    refine s_aload_n (pc := 895) (k0 := 1) (i := 1) rfl 1 rfl (show decode cL_law 895 = .ok (.aload_n 1, 1) by decide +kernel) ?_
                                                    refine s_aload_n (pc := 896) (k0 := 0) (i := 0) rfl 0 rfl (show decode cL_law 896 = .ok (.aload_n 0, 1) by decide +kernel) ?_
                                                    refine s_iload_n (pc := 897) (k0 := 3) (i := 3) rfl 3 rfl (show decode cL_law 897 = .ok (.iload_n 3, 1) by decide +kernel) ?_
                                                    refine s_iconst (pc := 898) (n := 1) (v := (1 : Int32)) (by decide) (show decode cL_law 898 = .ok (.iconst 1, 1) by decide +kernel) ?_
                                                    refine s_iadd (pc := 899) (show decode cL_law 899 = .ok (.iadd, 1) by decide +kernel) ?_
                                                    refine S_gd (fun c105 => ?_)
                                                    refine s_sld (pc := 900) c105 rfl (show decode cL_law 900 = .ok (.iaload, 1) by decide +kernel) ?_
                                                    refine s_aload_n (pc := 901) (k0 := 0) (i := 0) rfl 0 rfl (show decode cL_law 901 = .ok (.aload_n 0, 1) by decide +kernel) ?_
                                                    refine s_iload_n (pc := 902) (k0 := 3) (i := 3) rfl 3 rfl (show decode cL_law 902 = .ok (.iload_n 3, 1) by decide +kernel) ?_
                                                    refine s_iconst (pc := 903) (n := 2) (v := (2 : Int32)) (by decide) (show decode cL_law 903 = .ok (.iconst 2, 1) by decide +kernel) ?_
                                                    refine s_iadd (pc := 904) (show decode cL_law 904 = .ok (.iadd, 1) by decide +kernel) ?_
                                                    refine S_gd (fun c106 => ?_)
                                                    refine s_sld (pc := 905) c106 rfl (show decode cL_law 905 = .ok (.iaload, 1) by decide +kernel) ?_
                                                    refine s_aload_n (pc := 906) (k0 := 0) (i := 0) rfl 0 rfl (show decode cL_law 906 = .ok (.aload_n 0, 1) by decide +kernel) ?_
                                                    refine s_iload_n (pc := 907) (k0 := 3) (i := 3) rfl 3 rfl (show decode cL_law 907 = .ok (.iload_n 3, 1) by decide +kernel) ?_
                                                    refine s_iconst (pc := 908) (n := 3) (v := (3 : Int32)) (by decide) (show decode cL_law 908 = .ok (.iconst 3, 1) by decide +kernel) ?_
                                                    refine s_iadd (pc := 909) (show decode cL_law 909 = .ok (.iadd, 1) by decide +kernel) ?_
                                                    refine S_gd (fun c107 => ?_)
                                                    refine s_sld (pc := 910) c107 rfl (show decode cL_law 910 = .ok (.iaload, 1) by decide +kernel) ?_
                                                    refine S_gd (fun c108 => ?_)
                                                    refine s_cVj (pc := 911) [.int (xs (a3 + (1 : Int32)).toNatClampNeg), .int (xs (a3 + (2 : Int32)).toNatClampNeg), .int (xs (a3 + (3 : Int32)).toNatClampNeg)] (tX6_limit a1 (xs (a3 + (1 : Int32)).toNatClampNeg) (xs (a3 + (2 : Int32)).toNatClampNeg) (xs (a3 + (3 : Int32)).toNatClampNeg) h) c108 cw_L_112 rfl ⟨⟨Nat.le_of_ble_eq_true rfl, Nat.le_of_ble_eq_true rfl⟩, Nat.le_of_ble_eq_true rfl⟩ rfl (show decode cL_law 911 = .ok (.invokevirtual 112, 3) by decide +kernel) (fun w111 g109 e110 => ?_)
                                                    refine s_aload_n (pc := 914) (k0 := 2) (i := 2) rfl 2 rfl (show decode cL_law 914 = .ok (.aload_n 2, 1) by decide +kernel) ?_
                                                    refine s_aload_n (pc := 915) (k0 := 0) (i := 0) rfl 0 rfl (show decode cL_law 915 = .ok (.aload_n 0, 1) by decide +kernel) ?_
                                                    refine s_iload_n (pc := 916) (k0 := 3) (i := 3) rfl 3 rfl (show decode cL_law 916 = .ok (.iload_n 3, 1) by decide +kernel) ?_
                                                    refine s_iconst (pc := 917) (n := 1) (v := (1 : Int32)) (by decide) (show decode cL_law 917 = .ok (.iconst 1, 1) by decide +kernel) ?_
                                                    refine s_iadd (pc := 918) (show decode cL_law 918 = .ok (.iadd, 1) by decide +kernel) ?_
                                                    refine s_sld (pc := 919) c105 rfl (show decode cL_law 919 = .ok (.iaload, 1) by decide +kernel) ?_
                                                    refine s_aload_n (pc := 920) (k0 := 0) (i := 0) rfl 0 rfl (show decode cL_law 920 = .ok (.aload_n 0, 1) by decide +kernel) ?_
                                                    refine s_iload_n (pc := 921) (k0 := 3) (i := 3) rfl 3 rfl (show decode cL_law 921 = .ok (.iload_n 3, 1) by decide +kernel) ?_
                                                    refine s_iconst (pc := 922) (n := 2) (v := (2 : Int32)) (by decide) (show decode cL_law 922 = .ok (.iconst 2, 1) by decide +kernel) ?_
                                                    refine s_iadd (pc := 923) (show decode cL_law 923 = .ok (.iadd, 1) by decide +kernel) ?_
                                                    refine s_sld (pc := 924) c106 rfl (show decode cL_law 924 = .ok (.iaload, 1) by decide +kernel) ?_
                                                    refine s_aload_n (pc := 925) (k0 := 0) (i := 0) rfl 0 rfl (show decode cL_law 925 = .ok (.aload_n 0, 1) by decide +kernel) ?_
                                                    refine s_iload_n (pc := 926) (k0 := 3) (i := 3) rfl 3 rfl (show decode cL_law 926 = .ok (.iload_n 3, 1) by decide +kernel) ?_
                                                    refine s_iconst (pc := 927) (n := 3) (v := (3 : Int32)) (by decide) (show decode cL_law 927 = .ok (.iconst 3, 1) by decide +kernel) ?_
                                                    refine s_iadd (pc := 928) (show decode cL_law 928 = .ok (.iadd, 1) by decide +kernel) ?_
                                                    refine s_sld (pc := 929) c107 rfl (show decode cL_law 929 = .ok (.iaload, 1) by decide +kernel) ?_
                                                    refine S_gd (fun c112 => ?_)
                                                    refine s_cVj (pc := 930) [.int (xs (a3 + (1 : Int32)).toNatClampNeg), .int (xs (a3 + (2 : Int32)).toNatClampNeg), .int (xs (a3 + (3 : Int32)).toNatClampNeg)] (tX7_limit a2 (xs (a3 + (1 : Int32)).toNatClampNeg) (xs (a3 + (2 : Int32)).toNatClampNeg) (xs (a3 + (3 : Int32)).toNatClampNeg) g109) c112 cw_L_115 rfl ⟨⟨Nat.le_of_ble_eq_true rfl, Nat.le_of_ble_eq_true rfl⟩, Nat.le_of_ble_eq_true rfl⟩ rfl (show decode cL_law 930 = .ok (.invokevirtual 115, 3) by decide +kernel) (fun w115 g113 e114 => ?_)
                                                    refine s_lcmp (pc := 933) (show decode cL_law 933 = .ok (.lcmp, 1) by decide +kernel) ?_
                                                    refine s_if_eq (pc := 934) (off := 359) 1293 (show decode cL_law 934 = .ok (.ifCond .eq 359, 3) by decide +kernel) (by decide) (fun _ => ?_) (fun _ => ?_)
                                                    · exact pL_law_b1293 n xs hr18 a1 a2 a3 g113
                                                    · refine s_iconst (pc := 937) (n := 0) (v := (0 : Int32)) (by decide) (show decode cL_law 937 = .ok (.iconst 0, 1) by decide +kernel) ?_
                                                      exact s_zret (pc := 938) (by decide) rfl (show decode cL_law 938 = .ok (.ireturn, 1) by decide +kernel)
                                                  · refine S_ite (fun e => ?_) (fun ne24 => ?_)
                                                    · refine s_tableIn (pc := 33) (dflt := 1260) (lo := 0) (hi := 33) (offs := #[151, 214, 237, 260, 273, 316, 339, 372, 405, 438, 461, 484, 527, 570, 603, 626, 649, 662, 685, 708, 742, 785, 829, 862, 906, 939, 972, 1016, 1050, 1094, 1137, 1191, 1224, 1247]) (len := 151) (off := 906) 939 (show decode cL_law 33 = .ok (.tableswitch 1260 0 33 #[151, 214, 237, 260, 273, 316, 339, 372, 405, 438, 461, 484, 527, 570, 603, 626, 649, 662, 685, 708, 742, 785, 829, 862, 906, 939, 972, 1016, 1050, 1094, 1137, 1191, 1224, 1247], 151) by decide +kernel) (by rw [e]; decide) (by rw [e]; decide) (by rw [e]; rfl) (by decide) ?_
                                                      refine s_aload_n (pc := 939) (k0 := 1) (i := 1) rfl 1 rfl (show decode cL_law 939 = .ok (.aload_n 1, 1) by decide +kernel) ?_
                                                      refine s_aload_n (pc := 940) (k0 := 0) (i := 0) rfl 0 rfl (show decode cL_law 940 = .ok (.aload_n 0, 1) by decide +kernel) ?_
                                                      refine s_iload_n (pc := 941) (k0 := 3) (i := 3) rfl 3 rfl (show decode cL_law 941 = .ok (.iload_n 3, 1) by decide +kernel) ?_
                                                      refine s_iconst (pc := 942) (n := 1) (v := (1 : Int32)) (by decide) (show decode cL_law 942 = .ok (.iconst 1, 1) by decide +kernel) ?_
                                                      refine s_iadd (pc := 943) (show decode cL_law 943 = .ok (.iadd, 1) by decide +kernel) ?_
                                                      refine S_gd (fun c95 => ?_)
                                                      refine s_sld (pc := 944) c95 rfl (show decode cL_law 944 = .ok (.iaload, 1) by decide +kernel) ?_
                                                      refine s_aload_n (pc := 945) (k0 := 0) (i := 0) rfl 0 rfl (show decode cL_law 945 = .ok (.aload_n 0, 1) by decide +kernel) ?_
                                                      refine s_iload_n (pc := 946) (k0 := 3) (i := 3) rfl 3 rfl (show decode cL_law 946 = .ok (.iload_n 3, 1) by decide +kernel) ?_
                                                      refine s_iconst (pc := 947) (n := 2) (v := (2 : Int32)) (by decide) (show decode cL_law 947 = .ok (.iconst 2, 1) by decide +kernel) ?_
                                                      refine s_iadd (pc := 948) (show decode cL_law 948 = .ok (.iadd, 1) by decide +kernel) ?_
                                                      refine S_gd (fun c96 => ?_)
                                                      refine s_sld (pc := 949) c96 rfl (show decode cL_law 949 = .ok (.iaload, 1) by decide +kernel) ?_
                                                      refine S_gd (fun c97 => ?_)
                                                      refine s_cVi (pc := 950) [.int (xs (a3 + (1 : Int32)).toNatClampNeg), .int (xs (a3 + (2 : Int32)).toNatClampNeg)] (tX6_of a1 (xs (a3 + (1 : Int32)).toNatClampNeg) (xs (a3 + (2 : Int32)).toNatClampNeg) h) c97 cw_L_116 rfl ⟨⟨Nat.le_of_ble_eq_true rfl, Nat.le_of_ble_eq_true rfl⟩, Nat.le_of_ble_eq_true rfl⟩ rfl (show decode cL_law 950 = .ok (.invokevirtual 116, 3) by decide +kernel) (fun w100 g98 e99 => ?_)
                                                      refine s_aload_n (pc := 953) (k0 := 2) (i := 2) rfl 2 rfl (show decode cL_law 953 = .ok (.aload_n 2, 1) by decide +kernel) ?_
                                                      refine s_aload_n (pc := 954) (k0 := 0) (i := 0) rfl 0 rfl (show decode cL_law 954 = .ok (.aload_n 0, 1) by decide +kernel) ?_
                                                      refine s_iload_n (pc := 955) (k0 := 3) (i := 3) rfl 3 rfl (show decode cL_law 955 = .ok (.iload_n 3, 1) by decide +kernel) ?_
                                                      refine s_iconst (pc := 956) (n := 1) (v := (1 : Int32)) (by decide) (show decode cL_law 956 = .ok (.iconst 1, 1) by decide +kernel) ?_
                                                      refine s_iadd (pc := 957) (show decode cL_law 957 = .ok (.iadd, 1) by decide +kernel) ?_
                                                      refine s_sld (pc := 958) c95 rfl (show decode cL_law 958 = .ok (.iaload, 1) by decide +kernel) ?_
                                                      refine s_aload_n (pc := 959) (k0 := 0) (i := 0) rfl 0 rfl (show decode cL_law 959 = .ok (.aload_n 0, 1) by decide +kernel) ?_
                                                      refine s_iload_n (pc := 960) (k0 := 3) (i := 3) rfl 3 rfl (show decode cL_law 960 = .ok (.iload_n 3, 1) by decide +kernel) ?_
                                                      refine s_iconst (pc := 961) (n := 2) (v := (2 : Int32)) (by decide) (show decode cL_law 961 = .ok (.iconst 2, 1) by decide +kernel) ?_
                                                      refine s_iadd (pc := 962) (show decode cL_law 962 = .ok (.iadd, 1) by decide +kernel) ?_
                                                      refine s_sld (pc := 963) c96 rfl (show decode cL_law 963 = .ok (.iaload, 1) by decide +kernel) ?_
                                                      refine S_gd (fun c101 => ?_)
                                                      refine s_cVi (pc := 964) [.int (xs (a3 + (1 : Int32)).toNatClampNeg), .int (xs (a3 + (2 : Int32)).toNatClampNeg)] (tX7_of a2 (xs (a3 + (1 : Int32)).toNatClampNeg) (xs (a3 + (2 : Int32)).toNatClampNeg) g98) c101 cw_L_119 rfl ⟨⟨Nat.le_of_ble_eq_true rfl, Nat.le_of_ble_eq_true rfl⟩, Nat.le_of_ble_eq_true rfl⟩ rfl (show decode cL_law 964 = .ok (.invokevirtual 119, 3) by decide +kernel) (fun w104 g102 e103 => ?_)
                                                      refine s_icmp_eq (pc := 967) (off := 326) 1293 (show decode cL_law 967 = .ok (.if_icmp .eq 326, 3) by decide +kernel) (by decide) (fun _ => ?_) (fun _ => ?_)
                                                      · exact pL_law_b1293 n xs hr18 a1 a2 a3 g102
                                                      · refine s_iconst (pc := 970) (n := 0) (v := (0 : Int32)) (by decide) (show decode cL_law 970 = .ok (.iconst 0, 1) by decide +kernel) ?_
                                                        exact s_zret (pc := 971) (by decide) rfl (show decode cL_law 971 = .ok (.ireturn, 1) by decide +kernel)
                                                    · refine S_ite (fun e => ?_) (fun ne25 => ?_)
                                                      · refine s_tableIn (pc := 33) (dflt := 1260) (lo := 0) (hi := 33) (offs := #[151, 214, 237, 260, 273, 316, 339, 372, 405, 438, 461, 484, 527, 570, 603, 626, 649, 662, 685, 708, 742, 785, 829, 862, 906, 939, 972, 1016, 1050, 1094, 1137, 1191, 1224, 1247]) (len := 151) (off := 939) 972 (show decode cL_law 33 = .ok (.tableswitch 1260 0 33 #[151, 214, 237, 260, 273, 316, 339, 372, 405, 438, 461, 484, 527, 570, 603, 626, 649, 662, 685, 708, 742, 785, 829, 862, 906, 939, 972, 1016, 1050, 1094, 1137, 1191, 1224, 1247], 151) by decide +kernel) (by rw [e]; decide) (by rw [e]; decide) (by rw [e]; rfl) (by decide) ?_
                                                        refine s_aload_n (pc := 972) (k0 := 1) (i := 1) rfl 1 rfl (show decode cL_law 972 = .ok (.aload_n 1, 1) by decide +kernel) ?_
                                                        refine s_aload_n (pc := 973) (k0 := 0) (i := 0) rfl 0 rfl (show decode cL_law 973 = .ok (.aload_n 0, 1) by decide +kernel) ?_
                                                        refine s_iload_n (pc := 974) (k0 := 3) (i := 3) rfl 3 rfl (show decode cL_law 974 = .ok (.iload_n 3, 1) by decide +kernel) ?_
                                                        refine s_iconst (pc := 975) (n := 1) (v := (1 : Int32)) (by decide) (show decode cL_law 975 = .ok (.iconst 1, 1) by decide +kernel) ?_
                                                        refine s_iadd (pc := 976) (show decode cL_law 976 = .ok (.iadd, 1) by decide +kernel) ?_
                                                        refine S_gd (fun c85 => ?_)
                                                        refine s_sld (pc := 977) c85 rfl (show decode cL_law 977 = .ok (.iaload, 1) by decide +kernel) ?_
                                                        refine s_aload_n (pc := 978) (k0 := 0) (i := 0) rfl 0 rfl (show decode cL_law 978 = .ok (.aload_n 0, 1) by decide +kernel) ?_
                                                        refine s_iload_n (pc := 979) (k0 := 3) (i := 3) rfl 3 rfl (show decode cL_law 979 = .ok (.iload_n 3, 1) by decide +kernel) ?_
                                                        refine s_iconst (pc := 980) (n := 2) (v := (2 : Int32)) (by decide) (show decode cL_law 980 = .ok (.iconst 2, 1) by decide +kernel) ?_
                                                        refine s_iadd (pc := 981) (show decode cL_law 981 = .ok (.iadd, 1) by decide +kernel) ?_
                                                        refine S_gd (fun c86 => ?_)
                                                        refine s_sld (pc := 982) c86 rfl (show decode cL_law 982 = .ok (.iaload, 1) by decide +kernel) ?_
                                                        refine S_gd (fun c87 => ?_)
                                                        refine s_cVi (pc := 983) [.int (xs (a3 + (1 : Int32)).toNatClampNeg), .int (xs (a3 + (2 : Int32)).toNatClampNeg)] (tX6_least a1 (xs (a3 + (1 : Int32)).toNatClampNeg) (xs (a3 + (2 : Int32)).toNatClampNeg) h) c87 cw_L_120 rfl ⟨⟨Nat.le_of_ble_eq_true rfl, Nat.le_of_ble_eq_true rfl⟩, Nat.le_of_ble_eq_true rfl⟩ rfl (show decode cL_law 983 = .ok (.invokevirtual 120, 3) by decide +kernel) (fun w90 g88 e89 => ?_)
                                                        refine s_aload_n (pc := 986) (k0 := 2) (i := 2) rfl 2 rfl (show decode cL_law 986 = .ok (.aload_n 2, 1) by decide +kernel) ?_
                                                        refine s_aload_n (pc := 987) (k0 := 0) (i := 0) rfl 0 rfl (show decode cL_law 987 = .ok (.aload_n 0, 1) by decide +kernel) ?_
                                                        refine s_iload_n (pc := 988) (k0 := 3) (i := 3) rfl 3 rfl (show decode cL_law 988 = .ok (.iload_n 3, 1) by decide +kernel) ?_
                                                        refine s_iconst (pc := 989) (n := 1) (v := (1 : Int32)) (by decide) (show decode cL_law 989 = .ok (.iconst 1, 1) by decide +kernel) ?_
                                                        refine s_iadd (pc := 990) (show decode cL_law 990 = .ok (.iadd, 1) by decide +kernel) ?_
                                                        refine s_sld (pc := 991) c85 rfl (show decode cL_law 991 = .ok (.iaload, 1) by decide +kernel) ?_
                                                        refine s_aload_n (pc := 992) (k0 := 0) (i := 0) rfl 0 rfl (show decode cL_law 992 = .ok (.aload_n 0, 1) by decide +kernel) ?_
                                                        refine s_iload_n (pc := 993) (k0 := 3) (i := 3) rfl 3 rfl (show decode cL_law 993 = .ok (.iload_n 3, 1) by decide +kernel) ?_
                                                        refine s_iconst (pc := 994) (n := 2) (v := (2 : Int32)) (by decide) (show decode cL_law 994 = .ok (.iconst 2, 1) by decide +kernel) ?_
                                                        refine s_iadd (pc := 995) (show decode cL_law 995 = .ok (.iadd, 1) by decide +kernel) ?_
                                                        refine s_sld (pc := 996) c86 rfl (show decode cL_law 996 = .ok (.iaload, 1) by decide +kernel) ?_
                                                        refine S_gd (fun c91 => ?_)
                                                        refine s_cVi (pc := 997) [.int (xs (a3 + (1 : Int32)).toNatClampNeg), .int (xs (a3 + (2 : Int32)).toNatClampNeg)] (tX7_least a2 (xs (a3 + (1 : Int32)).toNatClampNeg) (xs (a3 + (2 : Int32)).toNatClampNeg) g88) c91 cw_L_123 rfl ⟨⟨Nat.le_of_ble_eq_true rfl, Nat.le_of_ble_eq_true rfl⟩, Nat.le_of_ble_eq_true rfl⟩ rfl (show decode cL_law 997 = .ok (.invokevirtual 123, 3) by decide +kernel) (fun w94 g92 e93 => ?_)
                                                        refine s_icmp_eq (pc := 1000) (off := 293) 1293 (show decode cL_law 1000 = .ok (.if_icmp .eq 293, 3) by decide +kernel) (by decide) (fun _ => ?_) (fun _ => ?_)
                                                        · exact pL_law_b1293 n xs hr18 a1 a2 a3 g92
                                                        · refine s_iconst (pc := 1003) (n := 0) (v := (0 : Int32)) (by decide) (show decode cL_law 1003 = .ok (.iconst 0, 1) by decide +kernel) ?_
                                                          exact s_zret (pc := 1004) (by decide) rfl (show decode cL_law 1004 = .ok (.ireturn, 1) by decide +kernel)
                                                      · refine S_ite (fun e => ?_) (fun ne26 => ?_)
                                                        · refine s_tableIn (pc := 33) (dflt := 1260) (lo := 0) (hi := 33) (offs := #[151, 214, 237, 260, 273, 316, 339, 372, 405, 438, 461, 484, 527, 570, 603, 626, 649, 662, 685, 708, 742, 785, 829, 862, 906, 939, 972, 1016, 1050, 1094, 1137, 1191, 1224, 1247]) (len := 151) (off := 972) 1005 (show decode cL_law 33 = .ok (.tableswitch 1260 0 33 #[151, 214, 237, 260, 273, 316, 339, 372, 405, 438, 461, 484, 527, 570, 603, 626, 649, 662, 685, 708, 742, 785, 829, 862, 906, 939, 972, 1016, 1050, 1094, 1137, 1191, 1224, 1247], 151) by decide +kernel) (by rw [e]; decide) (by rw [e]; decide) (by rw [e]; rfl) (by decide) ?_
                                                          refine s_aload_n (pc := 1005) (k0 := 1) (i := 1) rfl 1 rfl (show decode cL_law 1005 = .ok (.aload_n 1, 1) by decide +kernel) ?_
                                                          refine s_aload_n (pc := 1006) (k0 := 0) (i := 0) rfl 0 rfl (show decode cL_law 1006 = .ok (.aload_n 0, 1) by decide +kernel) ?_
                                                          refine s_iload_n (pc := 1007) (k0 := 3) (i := 3) rfl 3 rfl (show decode cL_law 1007 = .ok (.iload_n 3, 1) by decide +kernel) ?_
                                                          refine s_iconst (pc := 1008) (n := 1) (v := (1 : Int32)) (by decide) (show decode cL_law 1008 = .ok (.iconst 1, 1) by decide +kernel) ?_
                                                          refine s_iadd (pc := 1009) (show decode cL_law 1009 = .ok (.iadd, 1) by decide +kernel) ?_
                                                          refine S_gd (fun c74 => ?_)
                                                          refine s_sld (pc := 1010) c74 rfl (show decode cL_law 1010 = .ok (.iaload, 1) by decide +kernel) ?_
                                                          refine s_aload_n (pc := 1011) (k0 := 0) (i := 0) rfl 0 rfl (show decode cL_law 1011 = .ok (.aload_n 0, 1) by decide +kernel) ?_
                                                          refine s_iload_n (pc := 1012) (k0 := 3) (i := 3) rfl 3 rfl (show decode cL_law 1012 = .ok (.iload_n 3, 1) by decide +kernel) ?_
                                                          refine s_iconst (pc := 1013) (n := 2) (v := (2 : Int32)) (by decide) (show decode cL_law 1013 = .ok (.iconst 2, 1) by decide +kernel) ?_
                                                          refine s_iadd (pc := 1014) (show decode cL_law 1014 = .ok (.iadd, 1) by decide +kernel) ?_
                                                          refine S_gd (fun c75 => ?_)
                                                          refine s_sld (pc := 1015) c75 rfl (show decode cL_law 1015 = .ok (.iaload, 1) by decide +kernel) ?_
                                                          refine s_aload_n (pc := 1016) (k0 := 0) (i := 0) rfl 0 rfl (show decode cL_law 1016 = .ok (.aload_n 0, 1) by decide +kernel) ?_
                                                          refine s_iload_n (pc := 1017) (k0 := 3) (i := 3) rfl 3 rfl (show decode cL_law 1017 = .ok (.iload_n 3, 1) by decide +kernel) ?_
                                                          refine s_iconst (pc := 1018) (n := 3) (v := (3 : Int32)) (by decide) (show decode cL_law 1018 = .ok (.iconst 3, 1) by decide +kernel) ?_
                                                          refine s_iadd (pc := 1019) (show decode cL_law 1019 = .ok (.iadd, 1) by decide +kernel) ?_
                                                          refine S_gd (fun c76 => ?_)
                                                          refine s_sld (pc := 1020) c76 rfl (show decode cL_law 1020 = .ok (.iaload, 1) by decide +kernel) ?_
                                                          refine S_gd (fun c77 => ?_)
                                                          refine s_cVj (pc := 1021) [.int (xs (a3 + (1 : Int32)).toNatClampNeg), .int (xs (a3 + (2 : Int32)).toNatClampNeg), .int (xs (a3 + (3 : Int32)).toNatClampNeg)] (tX6_slope a1 (xs (a3 + (1 : Int32)).toNatClampNeg) (xs (a3 + (2 : Int32)).toNatClampNeg) (xs (a3 + (3 : Int32)).toNatClampNeg) h) c77 cw_L_124 rfl ⟨⟨Nat.le_of_ble_eq_true rfl, Nat.le_of_ble_eq_true rfl⟩, Nat.le_of_ble_eq_true rfl⟩ rfl (show decode cL_law 1021 = .ok (.invokevirtual 124, 3) by decide +kernel) (fun w80 g78 e79 => ?_)
                                                          refine s_aload_n (pc := 1024) (k0 := 2) (i := 2) rfl 2 rfl (show decode cL_law 1024 = .ok (.aload_n 2, 1) by decide +kernel) ?_
                                                          refine s_aload_n (pc := 1025) (k0 := 0) (i := 0) rfl 0 rfl (show decode cL_law 1025 = .ok (.aload_n 0, 1) by decide +kernel) ?_
                                                          refine s_iload_n (pc := 1026) (k0 := 3) (i := 3) rfl 3 rfl (show decode cL_law 1026 = .ok (.iload_n 3, 1) by decide +kernel) ?_
                                                          refine s_iconst (pc := 1027) (n := 1) (v := (1 : Int32)) (by decide) (show decode cL_law 1027 = .ok (.iconst 1, 1) by decide +kernel) ?_
                                                          refine s_iadd (pc := 1028) (show decode cL_law 1028 = .ok (.iadd, 1) by decide +kernel) ?_
                                                          refine s_sld (pc := 1029) c74 rfl (show decode cL_law 1029 = .ok (.iaload, 1) by decide +kernel) ?_
                                                          refine s_aload_n (pc := 1030) (k0 := 0) (i := 0) rfl 0 rfl (show decode cL_law 1030 = .ok (.aload_n 0, 1) by decide +kernel) ?_
                                                          refine s_iload_n (pc := 1031) (k0 := 3) (i := 3) rfl 3 rfl (show decode cL_law 1031 = .ok (.iload_n 3, 1) by decide +kernel) ?_
                                                          refine s_iconst (pc := 1032) (n := 2) (v := (2 : Int32)) (by decide) (show decode cL_law 1032 = .ok (.iconst 2, 1) by decide +kernel) ?_
                                                          refine s_iadd (pc := 1033) (show decode cL_law 1033 = .ok (.iadd, 1) by decide +kernel) ?_
                                                          refine s_sld (pc := 1034) c75 rfl (show decode cL_law 1034 = .ok (.iaload, 1) by decide +kernel) ?_
                                                          refine s_aload_n (pc := 1035) (k0 := 0) (i := 0) rfl 0 rfl (show decode cL_law 1035 = .ok (.aload_n 0, 1) by decide +kernel) ?_
                                                          refine s_iload_n (pc := 1036) (k0 := 3) (i := 3) rfl 3 rfl (show decode cL_law 1036 = .ok (.iload_n 3, 1) by decide +kernel) ?_
                                                          refine s_iconst (pc := 1037) (n := 3) (v := (3 : Int32)) (by decide) (show decode cL_law 1037 = .ok (.iconst 3, 1) by decide +kernel) ?_
                                                          refine s_iadd (pc := 1038) (show decode cL_law 1038 = .ok (.iadd, 1) by decide +kernel) ?_
                                                          refine s_sld (pc := 1039) c76 rfl (show decode cL_law 1039 = .ok (.iaload, 1) by decide +kernel) ?_
                                                          refine S_gd (fun c81 => ?_)
                                                          refine s_cVj (pc := 1040) [.int (xs (a3 + (1 : Int32)).toNatClampNeg), .int (xs (a3 + (2 : Int32)).toNatClampNeg), .int (xs (a3 + (3 : Int32)).toNatClampNeg)] (tX7_slope a2 (xs (a3 + (1 : Int32)).toNatClampNeg) (xs (a3 + (2 : Int32)).toNatClampNeg) (xs (a3 + (3 : Int32)).toNatClampNeg) g78) c81 cw_L_127 rfl ⟨⟨Nat.le_of_ble_eq_true rfl, Nat.le_of_ble_eq_true rfl⟩, Nat.le_of_ble_eq_true rfl⟩ rfl (show decode cL_law 1040 = .ok (.invokevirtual 127, 3) by decide +kernel) (fun w84 g82 e83 => ?_)
                                                          refine s_lcmp (pc := 1043) (show decode cL_law 1043 = .ok (.lcmp, 1) by decide +kernel) ?_
                                                          refine s_if_eq (pc := 1044) (off := 249) 1293 (show decode cL_law 1044 = .ok (.ifCond .eq 249, 3) by decide +kernel) (by decide) (fun _ => ?_) (fun _ => ?_)
                                                          · exact pL_law_b1293 n xs hr18 a1 a2 a3 g82
                                                          · refine s_iconst (pc := 1047) (n := 0) (v := (0 : Int32)) (by decide) (show decode cL_law 1047 = .ok (.iconst 0, 1) by decide +kernel) ?_
                                                            exact s_zret (pc := 1048) (by decide) rfl (show decode cL_law 1048 = .ok (.ireturn, 1) by decide +kernel)
                                                        · refine S_ite (fun e => ?_) (fun ne27 => ?_)
                                                          · refine s_tableIn (pc := 33) (dflt := 1260) (lo := 0) (hi := 33) (offs := #[151, 214, 237, 260, 273, 316, 339, 372, 405, 438, 461, 484, 527, 570, 603, 626, 649, 662, 685, 708, 742, 785, 829, 862, 906, 939, 972, 1016, 1050, 1094, 1137, 1191, 1224, 1247]) (len := 151) (off := 1016) 1049 (show decode cL_law 33 = .ok (.tableswitch 1260 0 33 #[151, 214, 237, 260, 273, 316, 339, 372, 405, 438, 461, 484, 527, 570, 603, 626, 649, 662, 685, 708, 742, 785, 829, 862, 906, 939, 972, 1016, 1050, 1094, 1137, 1191, 1224, 1247], 151) by decide +kernel) (by rw [e]; decide) (by rw [e]; decide) (by rw [e]; rfl) (by decide) ?_
                                                            refine s_aload_n (pc := 1049) (k0 := 1) (i := 1) rfl 1 rfl (show decode cL_law 1049 = .ok (.aload_n 1, 1) by decide +kernel) ?_
                                                            refine s_aload_n (pc := 1050) (k0 := 0) (i := 0) rfl 0 rfl (show decode cL_law 1050 = .ok (.aload_n 0, 1) by decide +kernel) ?_
                                                            refine s_iload_n (pc := 1051) (k0 := 3) (i := 3) rfl 3 rfl (show decode cL_law 1051 = .ok (.iload_n 3, 1) by decide +kernel) ?_
                                                            refine s_iconst (pc := 1052) (n := 1) (v := (1 : Int32)) (by decide) (show decode cL_law 1052 = .ok (.iconst 1, 1) by decide +kernel) ?_
                                                            refine s_iadd (pc := 1053) (show decode cL_law 1053 = .ok (.iadd, 1) by decide +kernel) ?_
                                                            refine S_gd (fun c64 => ?_)
                                                            refine s_sld (pc := 1054) c64 rfl (show decode cL_law 1054 = .ok (.iaload, 1) by decide +kernel) ?_
                                                            refine s_aload_n (pc := 1055) (k0 := 0) (i := 0) rfl 0 rfl (show decode cL_law 1055 = .ok (.aload_n 0, 1) by decide +kernel) ?_
                                                            refine s_iload_n (pc := 1056) (k0 := 3) (i := 3) rfl 3 rfl (show decode cL_law 1056 = .ok (.iload_n 3, 1) by decide +kernel) ?_
                                                            refine s_iconst (pc := 1057) (n := 2) (v := (2 : Int32)) (by decide) (show decode cL_law 1057 = .ok (.iconst 2, 1) by decide +kernel) ?_
                                                            refine s_iadd (pc := 1058) (show decode cL_law 1058 = .ok (.iadd, 1) by decide +kernel) ?_
                                                            refine S_gd (fun c65 => ?_)
                                                            refine s_sld (pc := 1059) c65 rfl (show decode cL_law 1059 = .ok (.iaload, 1) by decide +kernel) ?_
                                                            refine S_gd (fun c66 => ?_)
                                                            refine s_cVj (pc := 1060) [.int (xs (a3 + (1 : Int32)).toNatClampNeg), .int (xs (a3 + (2 : Int32)).toNatClampNeg)] (tX6_area a1 (xs (a3 + (1 : Int32)).toNatClampNeg) (xs (a3 + (2 : Int32)).toNatClampNeg) h) c66 cw_L_128 rfl ⟨⟨Nat.le_of_ble_eq_true rfl, Nat.le_of_ble_eq_true rfl⟩, Nat.le_of_ble_eq_true rfl⟩ rfl (show decode cL_law 1060 = .ok (.invokevirtual 128, 3) by decide +kernel) (fun w69 g67 e68 => ?_)
                                                            refine s_aload_n (pc := 1063) (k0 := 2) (i := 2) rfl 2 rfl (show decode cL_law 1063 = .ok (.aload_n 2, 1) by decide +kernel) ?_
                                                            refine s_aload_n (pc := 1064) (k0 := 0) (i := 0) rfl 0 rfl (show decode cL_law 1064 = .ok (.aload_n 0, 1) by decide +kernel) ?_
                                                            refine s_iload_n (pc := 1065) (k0 := 3) (i := 3) rfl 3 rfl (show decode cL_law 1065 = .ok (.iload_n 3, 1) by decide +kernel) ?_
                                                            refine s_iconst (pc := 1066) (n := 1) (v := (1 : Int32)) (by decide) (show decode cL_law 1066 = .ok (.iconst 1, 1) by decide +kernel) ?_
                                                            refine s_iadd (pc := 1067) (show decode cL_law 1067 = .ok (.iadd, 1) by decide +kernel) ?_
                                                            refine s_sld (pc := 1068) c64 rfl (show decode cL_law 1068 = .ok (.iaload, 1) by decide +kernel) ?_
                                                            refine s_aload_n (pc := 1069) (k0 := 0) (i := 0) rfl 0 rfl (show decode cL_law 1069 = .ok (.aload_n 0, 1) by decide +kernel) ?_
                                                            refine s_iload_n (pc := 1070) (k0 := 3) (i := 3) rfl 3 rfl (show decode cL_law 1070 = .ok (.iload_n 3, 1) by decide +kernel) ?_
                                                            refine s_iconst (pc := 1071) (n := 2) (v := (2 : Int32)) (by decide) (show decode cL_law 1071 = .ok (.iconst 2, 1) by decide +kernel) ?_
                                                            refine s_iadd (pc := 1072) (show decode cL_law 1072 = .ok (.iadd, 1) by decide +kernel) ?_
                                                            refine s_sld (pc := 1073) c65 rfl (show decode cL_law 1073 = .ok (.iaload, 1) by decide +kernel) ?_
                                                            refine S_gd (fun c70 => ?_)
                                                            refine s_cVj (pc := 1074) [.int (xs (a3 + (1 : Int32)).toNatClampNeg), .int (xs (a3 + (2 : Int32)).toNatClampNeg)] (tX7_area a2 (xs (a3 + (1 : Int32)).toNatClampNeg) (xs (a3 + (2 : Int32)).toNatClampNeg) g67) c70 cw_L_131 rfl ⟨⟨Nat.le_of_ble_eq_true rfl, Nat.le_of_ble_eq_true rfl⟩, Nat.le_of_ble_eq_true rfl⟩ rfl (show decode cL_law 1074 = .ok (.invokevirtual 131, 3) by decide +kernel) (fun w73 g71 e72 => ?_)
                                                            refine s_lcmp (pc := 1077) (show decode cL_law 1077 = .ok (.lcmp, 1) by decide +kernel) ?_
                                                            refine s_if_eq (pc := 1078) (off := 215) 1293 (show decode cL_law 1078 = .ok (.ifCond .eq 215, 3) by decide +kernel) (by decide) (fun _ => ?_) (fun _ => ?_)
                                                            · exact pL_law_b1293 n xs hr18 a1 a2 a3 g71
                                                            · refine s_iconst (pc := 1081) (n := 0) (v := (0 : Int32)) (by decide) (show decode cL_law 1081 = .ok (.iconst 0, 1) by decide +kernel) ?_
                                                              exact s_zret (pc := 1082) (by decide) rfl (show decode cL_law 1082 = .ok (.ireturn, 1) by decide +kernel)
                                                          · refine S_ite (fun e => ?_) (fun ne28 => ?_)
                                                            · refine s_tableIn (pc := 33) (dflt := 1260) (lo := 0) (hi := 33) (offs := #[151, 214, 237, 260, 273, 316, 339, 372, 405, 438, 461, 484, 527, 570, 603, 626, 649, 662, 685, 708, 742, 785, 829, 862, 906, 939, 972, 1016, 1050, 1094, 1137, 1191, 1224, 1247]) (len := 151) (off := 1050) 1083 (show decode cL_law 33 = .ok (.tableswitch 1260 0 33 #[151, 214, 237, 260, 273, 316, 339, 372, 405, 438, 461, 484, 527, 570, 603, 626, 649, 662, 685, 708, 742, 785, 829, 862, 906, 939, 972, 1016, 1050, 1094, 1137, 1191, 1224, 1247], 151) by decide +kernel) (by rw [e]; decide) (by rw [e]; decide) (by rw [e]; rfl) (by decide) ?_
                                                              refine s_aload_n (pc := 1083) (k0 := 1) (i := 1) rfl 1 rfl (show decode cL_law 1083 = .ok (.aload_n 1, 1) by decide +kernel) ?_
                                                              refine s_aload_n (pc := 1084) (k0 := 0) (i := 0) rfl 0 rfl (show decode cL_law 1084 = .ok (.aload_n 0, 1) by decide +kernel) ?_
                                                              refine s_iload_n (pc := 1085) (k0 := 3) (i := 3) rfl 3 rfl (show decode cL_law 1085 = .ok (.iload_n 3, 1) by decide +kernel) ?_
                                                              refine s_iconst (pc := 1086) (n := 1) (v := (1 : Int32)) (by decide) (show decode cL_law 1086 = .ok (.iconst 1, 1) by decide +kernel) ?_
                                                              refine s_iadd (pc := 1087) (show decode cL_law 1087 = .ok (.iadd, 1) by decide +kernel) ?_
                                                              refine S_gd (fun c53 => ?_)
                                                              refine s_sld (pc := 1088) c53 rfl (show decode cL_law 1088 = .ok (.iaload, 1) by decide +kernel) ?_
                                                              refine s_aload_n (pc := 1089) (k0 := 0) (i := 0) rfl 0 rfl (show decode cL_law 1089 = .ok (.aload_n 0, 1) by decide +kernel) ?_
                                                              refine s_iload_n (pc := 1090) (k0 := 3) (i := 3) rfl 3 rfl (show decode cL_law 1090 = .ok (.iload_n 3, 1) by decide +kernel) ?_
                                                              refine s_iconst (pc := 1091) (n := 2) (v := (2 : Int32)) (by decide) (show decode cL_law 1091 = .ok (.iconst 2, 1) by decide +kernel) ?_
                                                              refine s_iadd (pc := 1092) (show decode cL_law 1092 = .ok (.iadd, 1) by decide +kernel) ?_
                                                              refine S_gd (fun c54 => ?_)
                                                              refine s_sld (pc := 1093) c54 rfl (show decode cL_law 1093 = .ok (.iaload, 1) by decide +kernel) ?_
                                                              refine s_aload_n (pc := 1094) (k0 := 0) (i := 0) rfl 0 rfl (show decode cL_law 1094 = .ok (.aload_n 0, 1) by decide +kernel) ?_
                                                              refine s_iload_n (pc := 1095) (k0 := 3) (i := 3) rfl 3 rfl (show decode cL_law 1095 = .ok (.iload_n 3, 1) by decide +kernel) ?_
                                                              refine s_iconst (pc := 1096) (n := 3) (v := (3 : Int32)) (by decide) (show decode cL_law 1096 = .ok (.iconst 3, 1) by decide +kernel) ?_
                                                              refine s_iadd (pc := 1097) (show decode cL_law 1097 = .ok (.iadd, 1) by decide +kernel) ?_
                                                              refine S_gd (fun c55 => ?_)
                                                              refine s_sld (pc := 1098) c55 rfl (show decode cL_law 1098 = .ok (.iaload, 1) by decide +kernel) ?_
                                                              refine S_gd (fun c56 => ?_)
                                                              refine s_cVj (pc := 1099) [.int (xs (a3 + (1 : Int32)).toNatClampNeg), .int (xs (a3 + (2 : Int32)).toNatClampNeg), .int (xs (a3 + (3 : Int32)).toNatClampNeg)] (tX6_where a1 (xs (a3 + (1 : Int32)).toNatClampNeg) (xs (a3 + (2 : Int32)).toNatClampNeg) (xs (a3 + (3 : Int32)).toNatClampNeg) h) c56 cw_L_132 rfl ⟨⟨Nat.le_of_ble_eq_true rfl, Nat.le_of_ble_eq_true rfl⟩, Nat.le_of_ble_eq_true rfl⟩ rfl (show decode cL_law 1099 = .ok (.invokevirtual 132, 3) by decide +kernel) (fun w59 g57 e58 => ?_)
                                                              refine s_aload_n (pc := 1102) (k0 := 2) (i := 2) rfl 2 rfl (show decode cL_law 1102 = .ok (.aload_n 2, 1) by decide +kernel) ?_
                                                              refine s_aload_n (pc := 1103) (k0 := 0) (i := 0) rfl 0 rfl (show decode cL_law 1103 = .ok (.aload_n 0, 1) by decide +kernel) ?_
                                                              refine s_iload_n (pc := 1104) (k0 := 3) (i := 3) rfl 3 rfl (show decode cL_law 1104 = .ok (.iload_n 3, 1) by decide +kernel) ?_
                                                              refine s_iconst (pc := 1105) (n := 1) (v := (1 : Int32)) (by decide) (show decode cL_law 1105 = .ok (.iconst 1, 1) by decide +kernel) ?_
                                                              refine s_iadd (pc := 1106) (show decode cL_law 1106 = .ok (.iadd, 1) by decide +kernel) ?_
                                                              refine s_sld (pc := 1107) c53 rfl (show decode cL_law 1107 = .ok (.iaload, 1) by decide +kernel) ?_
                                                              refine s_aload_n (pc := 1108) (k0 := 0) (i := 0) rfl 0 rfl (show decode cL_law 1108 = .ok (.aload_n 0, 1) by decide +kernel) ?_
                                                              refine s_iload_n (pc := 1109) (k0 := 3) (i := 3) rfl 3 rfl (show decode cL_law 1109 = .ok (.iload_n 3, 1) by decide +kernel) ?_
                                                              refine s_iconst (pc := 1110) (n := 2) (v := (2 : Int32)) (by decide) (show decode cL_law 1110 = .ok (.iconst 2, 1) by decide +kernel) ?_
                                                              refine s_iadd (pc := 1111) (show decode cL_law 1111 = .ok (.iadd, 1) by decide +kernel) ?_
                                                              refine s_sld (pc := 1112) c54 rfl (show decode cL_law 1112 = .ok (.iaload, 1) by decide +kernel) ?_
                                                              refine s_aload_n (pc := 1113) (k0 := 0) (i := 0) rfl 0 rfl (show decode cL_law 1113 = .ok (.aload_n 0, 1) by decide +kernel) ?_
                                                              refine s_iload_n (pc := 1114) (k0 := 3) (i := 3) rfl 3 rfl (show decode cL_law 1114 = .ok (.iload_n 3, 1) by decide +kernel) ?_
                                                              refine s_iconst (pc := 1115) (n := 3) (v := (3 : Int32)) (by decide) (show decode cL_law 1115 = .ok (.iconst 3, 1) by decide +kernel) ?_
                                                              refine s_iadd (pc := 1116) (show decode cL_law 1116 = .ok (.iadd, 1) by decide +kernel) ?_
                                                              refine s_sld (pc := 1117) c55 rfl (show decode cL_law 1117 = .ok (.iaload, 1) by decide +kernel) ?_
                                                              refine S_gd (fun c60 => ?_)
                                                              refine s_cVj (pc := 1118) [.int (xs (a3 + (1 : Int32)).toNatClampNeg), .int (xs (a3 + (2 : Int32)).toNatClampNeg), .int (xs (a3 + (3 : Int32)).toNatClampNeg)] (tX7_where a2 (xs (a3 + (1 : Int32)).toNatClampNeg) (xs (a3 + (2 : Int32)).toNatClampNeg) (xs (a3 + (3 : Int32)).toNatClampNeg) g57) c60 cw_L_135 rfl ⟨⟨Nat.le_of_ble_eq_true rfl, Nat.le_of_ble_eq_true rfl⟩, Nat.le_of_ble_eq_true rfl⟩ rfl (show decode cL_law 1118 = .ok (.invokevirtual 135, 3) by decide +kernel) (fun w63 g61 e62 => ?_)
                                                              refine s_lcmp (pc := 1121) (show decode cL_law 1121 = .ok (.lcmp, 1) by decide +kernel) ?_
                                                              refine s_if_eq (pc := 1122) (off := 171) 1293 (show decode cL_law 1122 = .ok (.ifCond .eq 171, 3) by decide +kernel) (by decide) (fun _ => ?_) (fun _ => ?_)
                                                              · exact pL_law_b1293 n xs hr18 a1 a2 a3 g61
                                                              · refine s_iconst (pc := 1125) (n := 0) (v := (0 : Int32)) (by decide) (show decode cL_law 1125 = .ok (.iconst 0, 1) by decide +kernel) ?_
                                                                exact s_zret (pc := 1126) (by decide) rfl (show decode cL_law 1126 = .ok (.ireturn, 1) by decide +kernel)
                                                            · refine S_ite (fun e => ?_) (fun ne29 => ?_)
                                                              · refine s_tableIn (pc := 33) (dflt := 1260) (lo := 0) (hi := 33) (offs := #[151, 214, 237, 260, 273, 316, 339, 372, 405, 438, 461, 484, 527, 570, 603, 626, 649, 662, 685, 708, 742, 785, 829, 862, 906, 939, 972, 1016, 1050, 1094, 1137, 1191, 1224, 1247]) (len := 151) (off := 1094) 1127 (show decode cL_law 33 = .ok (.tableswitch 1260 0 33 #[151, 214, 237, 260, 273, 316, 339, 372, 405, 438, 461, 484, 527, 570, 603, 626, 649, 662, 685, 708, 742, 785, 829, 862, 906, 939, 972, 1016, 1050, 1094, 1137, 1191, 1224, 1247], 151) by decide +kernel) (by rw [e]; decide) (by rw [e]; decide) (by rw [e]; rfl) (by decide) ?_
                                                                refine s_aload_n (pc := 1127) (k0 := 1) (i := 1) rfl 1 rfl (show decode cL_law 1127 = .ok (.aload_n 1, 1) by decide +kernel) ?_
                                                                refine s_aload_n (pc := 1128) (k0 := 0) (i := 0) rfl 0 rfl (show decode cL_law 1128 = .ok (.aload_n 0, 1) by decide +kernel) ?_
                                                                refine s_iload_n (pc := 1129) (k0 := 3) (i := 3) rfl 3 rfl (show decode cL_law 1129 = .ok (.iload_n 3, 1) by decide +kernel) ?_
                                                                refine s_iconst (pc := 1130) (n := 1) (v := (1 : Int32)) (by decide) (show decode cL_law 1130 = .ok (.iconst 1, 1) by decide +kernel) ?_
                                                                refine s_iadd (pc := 1131) (show decode cL_law 1131 = .ok (.iadd, 1) by decide +kernel) ?_
                                                                refine S_gd (fun c42 => ?_)
                                                                refine s_sld (pc := 1132) c42 rfl (show decode cL_law 1132 = .ok (.iaload, 1) by decide +kernel) ?_
                                                                refine s_aload_n (pc := 1133) (k0 := 0) (i := 0) rfl 0 rfl (show decode cL_law 1133 = .ok (.aload_n 0, 1) by decide +kernel) ?_
                                                                refine s_iload_n (pc := 1134) (k0 := 3) (i := 3) rfl 3 rfl (show decode cL_law 1134 = .ok (.iload_n 3, 1) by decide +kernel) ?_
                                                                refine s_iconst (pc := 1135) (n := 2) (v := (2 : Int32)) (by decide) (show decode cL_law 1135 = .ok (.iconst 2, 1) by decide +kernel) ?_
                                                                refine s_iadd (pc := 1136) (show decode cL_law 1136 = .ok (.iadd, 1) by decide +kernel) ?_
                                                                refine S_gd (fun c43 => ?_)
                                                                refine s_sld (pc := 1137) c43 rfl (show decode cL_law 1137 = .ok (.iaload, 1) by decide +kernel) ?_
                                                                refine s_aload_n (pc := 1138) (k0 := 0) (i := 0) rfl 0 rfl (show decode cL_law 1138 = .ok (.aload_n 0, 1) by decide +kernel) ?_
                                                                refine s_iload_n (pc := 1139) (k0 := 3) (i := 3) rfl 3 rfl (show decode cL_law 1139 = .ok (.iload_n 3, 1) by decide +kernel) ?_
                                                                refine s_iconst (pc := 1140) (n := 3) (v := (3 : Int32)) (by decide) (show decode cL_law 1140 = .ok (.iconst 3, 1) by decide +kernel) ?_
                                                                refine s_iadd (pc := 1141) (show decode cL_law 1141 = .ok (.iadd, 1) by decide +kernel) ?_
                                                                refine S_gd (fun c44 => ?_)
                                                                refine s_sld (pc := 1142) c44 rfl (show decode cL_law 1142 = .ok (.iaload, 1) by decide +kernel) ?_
                                                                refine S_gd (fun c45 => ?_)
                                                                refine s_cVi (pc := 1143) [.int (xs (a3 + (1 : Int32)).toNatClampNeg), .int (xs (a3 + (2 : Int32)).toNatClampNeg), .int (xs (a3 + (3 : Int32)).toNatClampNeg)] (tX6_places a1 (xs (a3 + (1 : Int32)).toNatClampNeg) (xs (a3 + (2 : Int32)).toNatClampNeg) (xs (a3 + (3 : Int32)).toNatClampNeg) h) c45 cw_L_136 rfl ⟨⟨Nat.le_of_ble_eq_true rfl, Nat.le_of_ble_eq_true rfl⟩, Nat.le_of_ble_eq_true rfl⟩ rfl (show decode cL_law 1143 = .ok (.invokevirtual 136, 3) by decide +kernel) (fun w48 g46 e47 => ?_)
                                                                refine s_aload_n (pc := 1146) (k0 := 2) (i := 2) rfl 2 rfl (show decode cL_law 1146 = .ok (.aload_n 2, 1) by decide +kernel) ?_
                                                                refine s_aload_n (pc := 1147) (k0 := 0) (i := 0) rfl 0 rfl (show decode cL_law 1147 = .ok (.aload_n 0, 1) by decide +kernel) ?_
                                                                refine s_iload_n (pc := 1148) (k0 := 3) (i := 3) rfl 3 rfl (show decode cL_law 1148 = .ok (.iload_n 3, 1) by decide +kernel) ?_
                                                                refine s_iconst (pc := 1149) (n := 1) (v := (1 : Int32)) (by decide) (show decode cL_law 1149 = .ok (.iconst 1, 1) by decide +kernel) ?_
                                                                refine s_iadd (pc := 1150) (show decode cL_law 1150 = .ok (.iadd, 1) by decide +kernel) ?_
                                                                refine s_sld (pc := 1151) c42 rfl (show decode cL_law 1151 = .ok (.iaload, 1) by decide +kernel) ?_
                                                                refine s_aload_n (pc := 1152) (k0 := 0) (i := 0) rfl 0 rfl (show decode cL_law 1152 = .ok (.aload_n 0, 1) by decide +kernel) ?_
                                                                refine s_iload_n (pc := 1153) (k0 := 3) (i := 3) rfl 3 rfl (show decode cL_law 1153 = .ok (.iload_n 3, 1) by decide +kernel) ?_
                                                                refine s_iconst (pc := 1154) (n := 2) (v := (2 : Int32)) (by decide) (show decode cL_law 1154 = .ok (.iconst 2, 1) by decide +kernel) ?_
                                                                refine s_iadd (pc := 1155) (show decode cL_law 1155 = .ok (.iadd, 1) by decide +kernel) ?_
                                                                refine s_sld (pc := 1156) c43 rfl (show decode cL_law 1156 = .ok (.iaload, 1) by decide +kernel) ?_
                                                                refine s_aload_n (pc := 1157) (k0 := 0) (i := 0) rfl 0 rfl (show decode cL_law 1157 = .ok (.aload_n 0, 1) by decide +kernel) ?_
                                                                refine s_iload_n (pc := 1158) (k0 := 3) (i := 3) rfl 3 rfl (show decode cL_law 1158 = .ok (.iload_n 3, 1) by decide +kernel) ?_
                                                                refine s_iconst (pc := 1159) (n := 3) (v := (3 : Int32)) (by decide) (show decode cL_law 1159 = .ok (.iconst 3, 1) by decide +kernel) ?_
                                                                refine s_iadd (pc := 1160) (show decode cL_law 1160 = .ok (.iadd, 1) by decide +kernel) ?_
                                                                refine s_sld (pc := 1161) c44 rfl (show decode cL_law 1161 = .ok (.iaload, 1) by decide +kernel) ?_
                                                                refine S_gd (fun c49 => ?_)
                                                                refine s_cVi (pc := 1162) [.int (xs (a3 + (1 : Int32)).toNatClampNeg), .int (xs (a3 + (2 : Int32)).toNatClampNeg), .int (xs (a3 + (3 : Int32)).toNatClampNeg)] (tX7_places a2 (xs (a3 + (1 : Int32)).toNatClampNeg) (xs (a3 + (2 : Int32)).toNatClampNeg) (xs (a3 + (3 : Int32)).toNatClampNeg) g46) c49 cw_L_139 rfl ⟨⟨Nat.le_of_ble_eq_true rfl, Nat.le_of_ble_eq_true rfl⟩, Nat.le_of_ble_eq_true rfl⟩ rfl (show decode cL_law 1162 = .ok (.invokevirtual 139, 3) by decide +kernel) (fun w52 g50 e51 => ?_)
                                                                refine s_icmp_eq (pc := 1165) (off := 128) 1293 (show decode cL_law 1165 = .ok (.if_icmp .eq 128, 3) by decide +kernel) (by decide) (fun _ => ?_) (fun _ => ?_)
                                                                · exact pL_law_b1293 n xs hr18 a1 a2 a3 g50
                                                                · refine s_iconst (pc := 1168) (n := 0) (v := (0 : Int32)) (by decide) (show decode cL_law 1168 = .ok (.iconst 0, 1) by decide +kernel) ?_
                                                                  exact s_zret (pc := 1169) (by decide) rfl (show decode cL_law 1169 = .ok (.ireturn, 1) by decide +kernel)
                                                              · refine S_ite (fun e => ?_) (fun ne30 => ?_)
                                                                · refine s_tableIn (pc := 33) (dflt := 1260) (lo := 0) (hi := 33) (offs := #[151, 214, 237, 260, 273, 316, 339, 372, 405, 438, 461, 484, 527, 570, 603, 626, 649, 662, 685, 708, 742, 785, 829, 862, 906, 939, 972, 1016, 1050, 1094, 1137, 1191, 1224, 1247]) (len := 151) (off := 1137) 1170 (show decode cL_law 33 = .ok (.tableswitch 1260 0 33 #[151, 214, 237, 260, 273, 316, 339, 372, 405, 438, 461, 484, 527, 570, 603, 626, 649, 662, 685, 708, 742, 785, 829, 862, 906, 939, 972, 1016, 1050, 1094, 1137, 1191, 1224, 1247], 151) by decide +kernel) (by rw [e]; decide) (by rw [e]; decide) (by rw [e]; rfl) (by decide) ?_
                                                                  refine s_aload_n (pc := 1170) (k0 := 1) (i := 1) rfl 1 rfl (show decode cL_law 1170 = .ok (.aload_n 1, 1) by decide +kernel) ?_
                                                                  refine s_aload_n (pc := 1171) (k0 := 0) (i := 0) rfl 0 rfl (show decode cL_law 1171 = .ok (.aload_n 0, 1) by decide +kernel) ?_
                                                                  refine s_iload_n (pc := 1172) (k0 := 3) (i := 3) rfl 3 rfl (show decode cL_law 1172 = .ok (.iload_n 3, 1) by decide +kernel) ?_
                                                                  refine s_iconst (pc := 1173) (n := 1) (v := (1 : Int32)) (by decide) (show decode cL_law 1173 = .ok (.iconst 1, 1) by decide +kernel) ?_
                                                                  refine s_iadd (pc := 1174) (show decode cL_law 1174 = .ok (.iadd, 1) by decide +kernel) ?_
                                                                  refine S_gd (fun c30 => ?_)
                                                                  refine s_sld (pc := 1175) c30 rfl (show decode cL_law 1175 = .ok (.iaload, 1) by decide +kernel) ?_
                                                                  refine s_aload_n (pc := 1176) (k0 := 0) (i := 0) rfl 0 rfl (show decode cL_law 1176 = .ok (.aload_n 0, 1) by decide +kernel) ?_
                                                                  refine s_iload_n (pc := 1177) (k0 := 3) (i := 3) rfl 3 rfl (show decode cL_law 1177 = .ok (.iload_n 3, 1) by decide +kernel) ?_
                                                                  refine s_iconst (pc := 1178) (n := 2) (v := (2 : Int32)) (by decide) (show decode cL_law 1178 = .ok (.iconst 2, 1) by decide +kernel) ?_
                                                                  refine s_iadd (pc := 1179) (show decode cL_law 1179 = .ok (.iadd, 1) by decide +kernel) ?_
                                                                  refine S_gd (fun c31 => ?_)
                                                                  refine s_sld (pc := 1180) c31 rfl (show decode cL_law 1180 = .ok (.iaload, 1) by decide +kernel) ?_
                                                                  refine s_aload_n (pc := 1181) (k0 := 0) (i := 0) rfl 0 rfl (show decode cL_law 1181 = .ok (.aload_n 0, 1) by decide +kernel) ?_
                                                                  refine s_iload_n (pc := 1182) (k0 := 3) (i := 3) rfl 3 rfl (show decode cL_law 1182 = .ok (.iload_n 3, 1) by decide +kernel) ?_
                                                                  refine s_iconst (pc := 1183) (n := 3) (v := (3 : Int32)) (by decide) (show decode cL_law 1183 = .ok (.iconst 3, 1) by decide +kernel) ?_
                                                                  refine s_iadd (pc := 1184) (show decode cL_law 1184 = .ok (.iadd, 1) by decide +kernel) ?_
                                                                  refine S_gd (fun c32 => ?_)
                                                                  refine s_sld (pc := 1185) c32 rfl (show decode cL_law 1185 = .ok (.iaload, 1) by decide +kernel) ?_
                                                                  refine s_aload_n (pc := 1186) (k0 := 0) (i := 0) rfl 0 rfl (show decode cL_law 1186 = .ok (.aload_n 0, 1) by decide +kernel) ?_
                                                                  refine s_iload_n (pc := 1187) (k0 := 3) (i := 3) rfl 3 rfl (show decode cL_law 1187 = .ok (.iload_n 3, 1) by decide +kernel) ?_
                                                                  refine s_iconst (pc := 1188) (n := 4) (v := (4 : Int32)) (by decide) (show decode cL_law 1188 = .ok (.iconst 4, 1) by decide +kernel) ?_
                                                                  refine s_iadd (pc := 1189) (show decode cL_law 1189 = .ok (.iadd, 1) by decide +kernel) ?_
                                                                  refine S_gd (fun c33 => ?_)
                                                                  refine s_sld (pc := 1190) c33 rfl (show decode cL_law 1190 = .ok (.iaload, 1) by decide +kernel) ?_
                                                                  refine S_gd (fun c34 => ?_)
                                                                  refine s_cVj (pc := 1191) [.int (xs (a3 + (1 : Int32)).toNatClampNeg), .int (xs (a3 + (2 : Int32)).toNatClampNeg), .int (xs (a3 + (3 : Int32)).toNatClampNeg), .int (xs (a3 + (4 : Int32)).toNatClampNeg)] (tX6_split a1 (xs (a3 + (1 : Int32)).toNatClampNeg) (xs (a3 + (2 : Int32)).toNatClampNeg) (xs (a3 + (3 : Int32)).toNatClampNeg) (xs (a3 + (4 : Int32)).toNatClampNeg) h) c34 cw_L_140 rfl ⟨⟨Nat.le_of_ble_eq_true rfl, Nat.le_of_ble_eq_true rfl⟩, Nat.le_of_ble_eq_true rfl⟩ rfl (show decode cL_law 1191 = .ok (.invokevirtual 140, 3) by decide +kernel) (fun w37 g35 e36 => ?_)
                                                                  refine s_aload_n (pc := 1194) (k0 := 2) (i := 2) rfl 2 rfl (show decode cL_law 1194 = .ok (.aload_n 2, 1) by decide +kernel) ?_
                                                                  refine s_aload_n (pc := 1195) (k0 := 0) (i := 0) rfl 0 rfl (show decode cL_law 1195 = .ok (.aload_n 0, 1) by decide +kernel) ?_
                                                                  refine s_iload_n (pc := 1196) (k0 := 3) (i := 3) rfl 3 rfl (show decode cL_law 1196 = .ok (.iload_n 3, 1) by decide +kernel) ?_
                                                                  refine s_iconst (pc := 1197) (n := 1) (v := (1 : Int32)) (by decide) (show decode cL_law 1197 = .ok (.iconst 1, 1) by decide +kernel) ?_
                                                                  refine s_iadd (pc := 1198) (show decode cL_law 1198 = .ok (.iadd, 1) by decide +kernel) ?_
                                                                  refine s_sld (pc := 1199) c30 rfl (show decode cL_law 1199 = .ok (.iaload, 1) by decide +kernel) ?_
                                                                  refine s_aload_n (pc := 1200) (k0 := 0) (i := 0) rfl 0 rfl (show decode cL_law 1200 = .ok (.aload_n 0, 1) by decide +kernel) ?_
                                                                  refine s_iload_n (pc := 1201) (k0 := 3) (i := 3) rfl 3 rfl (show decode cL_law 1201 = .ok (.iload_n 3, 1) by decide +kernel) ?_
                                                                  refine s_iconst (pc := 1202) (n := 2) (v := (2 : Int32)) (by decide) (show decode cL_law 1202 = .ok (.iconst 2, 1) by decide +kernel) ?_
                                                                  refine s_iadd (pc := 1203) (show decode cL_law 1203 = .ok (.iadd, 1) by decide +kernel) ?_
                                                                  refine s_sld (pc := 1204) c31 rfl (show decode cL_law 1204 = .ok (.iaload, 1) by decide +kernel) ?_
                                                                  refine s_aload_n (pc := 1205) (k0 := 0) (i := 0) rfl 0 rfl (show decode cL_law 1205 = .ok (.aload_n 0, 1) by decide +kernel) ?_
                                                                  refine s_iload_n (pc := 1206) (k0 := 3) (i := 3) rfl 3 rfl (show decode cL_law 1206 = .ok (.iload_n 3, 1) by decide +kernel) ?_
                                                                  refine s_iconst (pc := 1207) (n := 3) (v := (3 : Int32)) (by decide) (show decode cL_law 1207 = .ok (.iconst 3, 1) by decide +kernel) ?_
                                                                  refine s_iadd (pc := 1208) (show decode cL_law 1208 = .ok (.iadd, 1) by decide +kernel) ?_
                                                                  refine s_sld (pc := 1209) c32 rfl (show decode cL_law 1209 = .ok (.iaload, 1) by decide +kernel) ?_
                                                                  refine s_aload_n (pc := 1210) (k0 := 0) (i := 0) rfl 0 rfl (show decode cL_law 1210 = .ok (.aload_n 0, 1) by decide +kernel) ?_
                                                                  refine s_iload_n (pc := 1211) (k0 := 3) (i := 3) rfl 3 rfl (show decode cL_law 1211 = .ok (.iload_n 3, 1) by decide +kernel) ?_
                                                                  refine s_iconst (pc := 1212) (n := 4) (v := (4 : Int32)) (by decide) (show decode cL_law 1212 = .ok (.iconst 4, 1) by decide +kernel) ?_
                                                                  refine s_iadd (pc := 1213) (show decode cL_law 1213 = .ok (.iadd, 1) by decide +kernel) ?_
                                                                  refine s_sld (pc := 1214) c33 rfl (show decode cL_law 1214 = .ok (.iaload, 1) by decide +kernel) ?_
                                                                  refine S_gd (fun c38 => ?_)
                                                                  refine s_cVj (pc := 1215) [.int (xs (a3 + (1 : Int32)).toNatClampNeg), .int (xs (a3 + (2 : Int32)).toNatClampNeg), .int (xs (a3 + (3 : Int32)).toNatClampNeg), .int (xs (a3 + (4 : Int32)).toNatClampNeg)] (tX7_split a2 (xs (a3 + (1 : Int32)).toNatClampNeg) (xs (a3 + (2 : Int32)).toNatClampNeg) (xs (a3 + (3 : Int32)).toNatClampNeg) (xs (a3 + (4 : Int32)).toNatClampNeg) g35) c38 cw_L_144 rfl ⟨⟨Nat.le_of_ble_eq_true rfl, Nat.le_of_ble_eq_true rfl⟩, Nat.le_of_ble_eq_true rfl⟩ rfl (show decode cL_law 1215 = .ok (.invokevirtual 144, 3) by decide +kernel) (fun w41 g39 e40 => ?_)
                                                                  refine s_lcmp (pc := 1218) (show decode cL_law 1218 = .ok (.lcmp, 1) by decide +kernel) ?_
                                                                  refine s_if_eq (pc := 1219) (off := 74) 1293 (show decode cL_law 1219 = .ok (.ifCond .eq 74, 3) by decide +kernel) (by decide) (fun _ => ?_) (fun _ => ?_)
                                                                  · exact pL_law_b1293 n xs hr18 a1 a2 a3 g39
                                                                  · refine s_iconst (pc := 1222) (n := 0) (v := (0 : Int32)) (by decide) (show decode cL_law 1222 = .ok (.iconst 0, 1) by decide +kernel) ?_
                                                                    exact s_zret (pc := 1223) (by decide) rfl (show decode cL_law 1223 = .ok (.ireturn, 1) by decide +kernel)
                                                                · refine S_ite (fun e => ?_) (fun ne31 => ?_)
                                                                  · refine s_tableIn (pc := 33) (dflt := 1260) (lo := 0) (hi := 33) (offs := #[151, 214, 237, 260, 273, 316, 339, 372, 405, 438, 461, 484, 527, 570, 603, 626, 649, 662, 685, 708, 742, 785, 829, 862, 906, 939, 972, 1016, 1050, 1094, 1137, 1191, 1224, 1247]) (len := 151) (off := 1191) 1224 (show decode cL_law 33 = .ok (.tableswitch 1260 0 33 #[151, 214, 237, 260, 273, 316, 339, 372, 405, 438, 461, 484, 527, 570, 603, 626, 649, 662, 685, 708, 742, 785, 829, 862, 906, 939, 972, 1016, 1050, 1094, 1137, 1191, 1224, 1247], 151) by decide +kernel) (by rw [e]; decide) (by rw [e]; decide) (by rw [e]; rfl) (by decide) ?_
                                                                    refine s_aload_n (pc := 1224) (k0 := 1) (i := 1) rfl 1 rfl (show decode cL_law 1224 = .ok (.aload_n 1, 1) by decide +kernel) ?_
                                                                    refine s_aload_n (pc := 1225) (k0 := 0) (i := 0) rfl 0 rfl (show decode cL_law 1225 = .ok (.aload_n 0, 1) by decide +kernel) ?_
                                                                    refine s_iload_n (pc := 1226) (k0 := 3) (i := 3) rfl 3 rfl (show decode cL_law 1226 = .ok (.iload_n 3, 1) by decide +kernel) ?_
                                                                    refine s_iconst (pc := 1227) (n := 1) (v := (1 : Int32)) (by decide) (show decode cL_law 1227 = .ok (.iconst 1, 1) by decide +kernel) ?_
                                                                    refine s_iadd (pc := 1228) (show decode cL_law 1228 = .ok (.iadd, 1) by decide +kernel) ?_
                                                                    refine S_gd (fun c20 => ?_)
                                                                    refine s_sld (pc := 1229) c20 rfl (show decode cL_law 1229 = .ok (.iaload, 1) by decide +kernel) ?_
                                                                    refine s_aload_n (pc := 1230) (k0 := 0) (i := 0) rfl 0 rfl (show decode cL_law 1230 = .ok (.aload_n 0, 1) by decide +kernel) ?_
                                                                    refine s_iload_n (pc := 1231) (k0 := 3) (i := 3) rfl 3 rfl (show decode cL_law 1231 = .ok (.iload_n 3, 1) by decide +kernel) ?_
                                                                    refine s_iconst (pc := 1232) (n := 2) (v := (2 : Int32)) (by decide) (show decode cL_law 1232 = .ok (.iconst 2, 1) by decide +kernel) ?_
                                                                    refine s_iadd (pc := 1233) (show decode cL_law 1233 = .ok (.iadd, 1) by decide +kernel) ?_
                                                                    refine S_gd (fun c21 => ?_)
                                                                    refine s_sld (pc := 1234) c21 rfl (show decode cL_law 1234 = .ok (.iaload, 1) by decide +kernel) ?_
                                                                    refine S_gd (fun c22 => ?_)
                                                                    refine s_cVi (pc := 1235) [.int (xs (a3 + (1 : Int32)).toNatClampNeg), .int (xs (a3 + (2 : Int32)).toNatClampNeg)] (tX6_compare a1 (xs (a3 + (1 : Int32)).toNatClampNeg) (xs (a3 + (2 : Int32)).toNatClampNeg) h) c22 cw_L_145 rfl ⟨⟨Nat.le_of_ble_eq_true rfl, Nat.le_of_ble_eq_true rfl⟩, Nat.le_of_ble_eq_true rfl⟩ rfl (show decode cL_law 1235 = .ok (.invokevirtual 145, 3) by decide +kernel) (fun w25 g23 e24 => ?_)
                                                                    refine s_aload_n (pc := 1238) (k0 := 2) (i := 2) rfl 2 rfl (show decode cL_law 1238 = .ok (.aload_n 2, 1) by decide +kernel) ?_
                                                                    refine s_aload_n (pc := 1239) (k0 := 0) (i := 0) rfl 0 rfl (show decode cL_law 1239 = .ok (.aload_n 0, 1) by decide +kernel) ?_
                                                                    refine s_iload_n (pc := 1240) (k0 := 3) (i := 3) rfl 3 rfl (show decode cL_law 1240 = .ok (.iload_n 3, 1) by decide +kernel) ?_
                                                                    refine s_iconst (pc := 1241) (n := 1) (v := (1 : Int32)) (by decide) (show decode cL_law 1241 = .ok (.iconst 1, 1) by decide +kernel) ?_
                                                                    refine s_iadd (pc := 1242) (show decode cL_law 1242 = .ok (.iadd, 1) by decide +kernel) ?_
                                                                    refine s_sld (pc := 1243) c20 rfl (show decode cL_law 1243 = .ok (.iaload, 1) by decide +kernel) ?_
                                                                    refine s_aload_n (pc := 1244) (k0 := 0) (i := 0) rfl 0 rfl (show decode cL_law 1244 = .ok (.aload_n 0, 1) by decide +kernel) ?_
                                                                    refine s_iload_n (pc := 1245) (k0 := 3) (i := 3) rfl 3 rfl (show decode cL_law 1245 = .ok (.iload_n 3, 1) by decide +kernel) ?_
                                                                    refine s_iconst (pc := 1246) (n := 2) (v := (2 : Int32)) (by decide) (show decode cL_law 1246 = .ok (.iconst 2, 1) by decide +kernel) ?_
                                                                    refine s_iadd (pc := 1247) (show decode cL_law 1247 = .ok (.iadd, 1) by decide +kernel) ?_
                                                                    refine s_sld (pc := 1248) c21 rfl (show decode cL_law 1248 = .ok (.iaload, 1) by decide +kernel) ?_
                                                                    refine S_gd (fun c26 => ?_)
                                                                    refine s_cVi (pc := 1249) [.int (xs (a3 + (1 : Int32)).toNatClampNeg), .int (xs (a3 + (2 : Int32)).toNatClampNeg)] (tX7_compare a2 (xs (a3 + (1 : Int32)).toNatClampNeg) (xs (a3 + (2 : Int32)).toNatClampNeg) g23) c26 cw_L_148 rfl ⟨⟨Nat.le_of_ble_eq_true rfl, Nat.le_of_ble_eq_true rfl⟩, Nat.le_of_ble_eq_true rfl⟩ rfl (show decode cL_law 1249 = .ok (.invokevirtual 148, 3) by decide +kernel) (fun w29 g27 e28 => ?_)
                                                                    refine s_icmp_eq (pc := 1252) (off := 41) 1293 (show decode cL_law 1252 = .ok (.if_icmp .eq 41, 3) by decide +kernel) (by decide) (fun _ => ?_) (fun _ => ?_)
                                                                    · exact pL_law_b1293 n xs hr18 a1 a2 a3 g27
                                                                    · refine s_iconst (pc := 1255) (n := 0) (v := (0 : Int32)) (by decide) (show decode cL_law 1255 = .ok (.iconst 0, 1) by decide +kernel) ?_
                                                                      exact s_zret (pc := 1256) (by decide) rfl (show decode cL_law 1256 = .ok (.ireturn, 1) by decide +kernel)
                                                                  · refine S_ite (fun e => ?_) (fun ne32 => ?_)
                                                                    · refine s_tableIn (pc := 33) (dflt := 1260) (lo := 0) (hi := 33) (offs := #[151, 214, 237, 260, 273, 316, 339, 372, 405, 438, 461, 484, 527, 570, 603, 626, 649, 662, 685, 708, 742, 785, 829, 862, 906, 939, 972, 1016, 1050, 1094, 1137, 1191, 1224, 1247]) (len := 151) (off := 1224) 1257 (show decode cL_law 33 = .ok (.tableswitch 1260 0 33 #[151, 214, 237, 260, 273, 316, 339, 372, 405, 438, 461, 484, 527, 570, 603, 626, 649, 662, 685, 708, 742, 785, 829, 862, 906, 939, 972, 1016, 1050, 1094, 1137, 1191, 1224, 1247], 151) by decide +kernel) (by rw [e]; decide) (by rw [e]; decide) (by rw [e]; rfl) (by decide) ?_
                                                                      refine s_aload_n (pc := 1257) (k0 := 1) (i := 1) rfl 1 rfl (show decode cL_law 1257 = .ok (.aload_n 1, 1) by decide +kernel) ?_
                                                                      refine s_aload_n (pc := 1258) (k0 := 0) (i := 0) rfl 0 rfl (show decode cL_law 1258 = .ok (.aload_n 0, 1) by decide +kernel) ?_
                                                                      refine s_iload_n (pc := 1259) (k0 := 3) (i := 3) rfl 3 rfl (show decode cL_law 1259 = .ok (.iload_n 3, 1) by decide +kernel) ?_
                                                                      refine s_iconst (pc := 1260) (n := 1) (v := (1 : Int32)) (by decide) (show decode cL_law 1260 = .ok (.iconst 1, 1) by decide +kernel) ?_
                                                                      refine s_iadd (pc := 1261) (show decode cL_law 1261 = .ok (.iadd, 1) by decide +kernel) ?_
                                                                      refine S_gd (fun c11 => ?_)
                                                                      refine s_sld (pc := 1262) c11 rfl (show decode cL_law 1262 = .ok (.iaload, 1) by decide +kernel) ?_
                                                                      refine S_gd (fun c12 => ?_)
                                                                      refine s_cVi (pc := 1263) [.int (xs (a3 + (1 : Int32)).toNatClampNeg)] (tX6_count a1 (xs (a3 + (1 : Int32)).toNatClampNeg) h) c12 cw_L_149 rfl ⟨⟨Nat.le_of_ble_eq_true rfl, Nat.le_of_ble_eq_true rfl⟩, Nat.le_of_ble_eq_true rfl⟩ rfl (show decode cL_law 1263 = .ok (.invokevirtual 149, 3) by decide +kernel) (fun w15 g13 e14 => ?_)
                                                                      refine s_aload_n (pc := 1266) (k0 := 2) (i := 2) rfl 2 rfl (show decode cL_law 1266 = .ok (.aload_n 2, 1) by decide +kernel) ?_
                                                                      refine s_aload_n (pc := 1267) (k0 := 0) (i := 0) rfl 0 rfl (show decode cL_law 1267 = .ok (.aload_n 0, 1) by decide +kernel) ?_
                                                                      refine s_iload_n (pc := 1268) (k0 := 3) (i := 3) rfl 3 rfl (show decode cL_law 1268 = .ok (.iload_n 3, 1) by decide +kernel) ?_
                                                                      refine s_iconst (pc := 1269) (n := 1) (v := (1 : Int32)) (by decide) (show decode cL_law 1269 = .ok (.iconst 1, 1) by decide +kernel) ?_
                                                                      refine s_iadd (pc := 1270) (show decode cL_law 1270 = .ok (.iadd, 1) by decide +kernel) ?_
                                                                      refine s_sld (pc := 1271) c11 rfl (show decode cL_law 1271 = .ok (.iaload, 1) by decide +kernel) ?_
                                                                      refine S_gd (fun c16 => ?_)
                                                                      refine s_cVi (pc := 1272) [.int (xs (a3 + (1 : Int32)).toNatClampNeg)] (tX7_count a2 (xs (a3 + (1 : Int32)).toNatClampNeg) g13) c16 cw_L_152 rfl ⟨⟨Nat.le_of_ble_eq_true rfl, Nat.le_of_ble_eq_true rfl⟩, Nat.le_of_ble_eq_true rfl⟩ rfl (show decode cL_law 1272 = .ok (.invokevirtual 152, 3) by decide +kernel) (fun w19 g17 e18 => ?_)
                                                                      refine s_icmp_eq (pc := 1275) (off := 18) 1293 (show decode cL_law 1275 = .ok (.if_icmp .eq 18, 3) by decide +kernel) (by decide) (fun _ => ?_) (fun _ => ?_)
                                                                      · exact pL_law_b1293 n xs hr18 a1 a2 a3 g17
                                                                      · refine s_iconst (pc := 1278) (n := 0) (v := (0 : Int32)) (by decide) (show decode cL_law 1278 = .ok (.iconst 0, 1) by decide +kernel) ?_
                                                                        exact s_zret (pc := 1279) (by decide) rfl (show decode cL_law 1279 = .ok (.ireturn, 1) by decide +kernel)
                                                                    · refine S_ite (fun e => ?_) (fun ne33 => ?_)
                                                                      · refine s_tableIn (pc := 33) (dflt := 1260) (lo := 0) (hi := 33) (offs := #[151, 214, 237, 260, 273, 316, 339, 372, 405, 438, 461, 484, 527, 570, 603, 626, 649, 662, 685, 708, 742, 785, 829, 862, 906, 939, 972, 1016, 1050, 1094, 1137, 1191, 1224, 1247]) (len := 151) (off := 1247) 1280 (show decode cL_law 33 = .ok (.tableswitch 1260 0 33 #[151, 214, 237, 260, 273, 316, 339, 372, 405, 438, 461, 484, 527, 570, 603, 626, 649, 662, 685, 708, 742, 785, 829, 862, 906, 939, 972, 1016, 1050, 1094, 1137, 1191, 1224, 1247], 151) by decide +kernel) (by rw [e]; decide) (by rw [e]; decide) (by rw [e]; rfl) (by decide) ?_
                                                                        refine s_aload_n (pc := 1280) (k0 := 1) (i := 1) rfl 1 rfl (show decode cL_law 1280 = .ok (.aload_n 1, 1) by decide +kernel) ?_
                                                                        refine S_gd (fun c3 => ?_)
                                                                        refine s_cVi (pc := 1281) [] (tX6_status a1 h) c3 cw_L_153 rfl ⟨⟨Nat.le_of_ble_eq_true rfl, Nat.le_of_ble_eq_true rfl⟩, Nat.le_of_ble_eq_true rfl⟩ rfl (show decode cL_law 1281 = .ok (.invokevirtual 153, 3) by decide +kernel) (fun w6 g4 e5 => ?_)
                                                                        refine s_aload_n (pc := 1284) (k0 := 2) (i := 2) rfl 2 rfl (show decode cL_law 1284 = .ok (.aload_n 2, 1) by decide +kernel) ?_
                                                                        refine S_gd (fun c7 => ?_)
                                                                        refine s_cVi (pc := 1285) [] (tX7_status a2 g4) c7 cw_L_156 rfl ⟨⟨Nat.le_of_ble_eq_true rfl, Nat.le_of_ble_eq_true rfl⟩, Nat.le_of_ble_eq_true rfl⟩ rfl (show decode cL_law 1285 = .ok (.invokevirtual 156, 3) by decide +kernel) (fun w10 g8 e9 => ?_)
                                                                        refine s_icmp_eq (pc := 1288) (off := 5) 1293 (show decode cL_law 1288 = .ok (.if_icmp .eq 5, 3) by decide +kernel) (by decide) (fun _ => ?_) (fun _ => ?_)
                                                                        · exact pL_law_b1293 n xs hr18 a1 a2 a3 g8
                                                                        · refine s_iconst (pc := 1291) (n := 0) (v := (0 : Int32)) (by decide) (show decode cL_law 1291 = .ok (.iconst 0, 1) by decide +kernel) ?_
                                                                          exact s_zret (pc := 1292) (by decide) rfl (show decode cL_law 1292 = .ok (.ireturn, 1) by decide +kernel)
                                                                      · have tn0 := tb_ne ne0 (n := 0) (by decide)
                                                                        have tn1 := tb_ne ne1 (n := 1) (by decide)
                                                                        have tn2 := tb_ne ne2 (n := 2) (by decide)
                                                                        have tn3 := tb_ne ne3 (n := 3) (by decide)
                                                                        have tn4 := tb_ne ne4 (n := 4) (by decide)
                                                                        have tn5 := tb_ne ne5 (n := 5) (by decide)
                                                                        have tn6 := tb_ne ne6 (n := 6) (by decide)
                                                                        have tn7 := tb_ne ne7 (n := 7) (by decide)
                                                                        have tn8 := tb_ne ne8 (n := 8) (by decide)
                                                                        have tn9 := tb_ne ne9 (n := 9) (by decide)
                                                                        have tn10 := tb_ne ne10 (n := 10) (by decide)
                                                                        have tn11 := tb_ne ne11 (n := 11) (by decide)
                                                                        have tn12 := tb_ne ne12 (n := 12) (by decide)
                                                                        have tn13 := tb_ne ne13 (n := 13) (by decide)
                                                                        have tn14 := tb_ne ne14 (n := 14) (by decide)
                                                                        have tn15 := tb_ne ne15 (n := 15) (by decide)
                                                                        have tn16 := tb_ne ne16 (n := 16) (by decide)
                                                                        have tn17 := tb_ne ne17 (n := 17) (by decide)
                                                                        have tn18 := tb_ne ne18 (n := 18) (by decide)
                                                                        have tn19 := tb_ne ne19 (n := 19) (by decide)
                                                                        have tn20 := tb_ne ne20 (n := 20) (by decide)
                                                                        have tn21 := tb_ne ne21 (n := 21) (by decide)
                                                                        have tn22 := tb_ne ne22 (n := 22) (by decide)
                                                                        have tn23 := tb_ne ne23 (n := 23) (by decide)
                                                                        have tn24 := tb_ne ne24 (n := 24) (by decide)
                                                                        have tn25 := tb_ne ne25 (n := 25) (by decide)
                                                                        have tn26 := tb_ne ne26 (n := 26) (by decide)
                                                                        have tn27 := tb_ne ne27 (n := 27) (by decide)
                                                                        have tn28 := tb_ne ne28 (n := 28) (by decide)
                                                                        have tn29 := tb_ne ne29 (n := 29) (by decide)
                                                                        have tn30 := tb_ne ne30 (n := 30) (by decide)
                                                                        have tn31 := tb_ne ne31 (n := 31) (by decide)
                                                                        have tn32 := tb_ne ne32 (n := 32) (by decide)
                                                                        have tn33 := tb_ne ne33 (n := 33) (by decide)
                                                                        refine s_tableOut (pc := 33) (dflt := 1260) (lo := 0) (hi := 33) (offs := #[151, 214, 237, 260, 273, 316, 339, 372, 405, 438, 461, 484, 527, 570, 603, 626, 649, 662, 685, 708, 742, 785, 829, 862, 906, 939, 972, 1016, 1050, 1094, 1137, 1191, 1224, 1247]) (len := 151) 1293 (show decode cL_law 33 = .ok (.tableswitch 1260 0 33 #[151, 214, 237, 260, 273, 316, 339, 372, 405, 438, 461, 484, 527, 570, 603, 626, 649, 662, 685, 708, 742, 785, 829, 862, 906, 939, 972, 1016, 1050, 1094, 1137, 1191, 1224, 1247], 151) by decide +kernel) (by omega) (by decide) ?_
                                                                        exact pL_law_b1293 n xs hr18 a1 a2 a3 h
theorem pL_law_l18 (n : Nat) (xs : Nat → Int32) {h0 : xH}   : ∀ (k : Nat)  (a1 : Nat) (a2 : Nat) (a3 : Int32) (h : xH), S emI (kL_law n xs) h0 18 [(0, .ref 1), (1, .ref a1), (2, .ref a2), (3, .int a3)] [] h (fL_law_l18 n xs  k  a1 a2 a3 h) := by
  intro k
  induction k with
  | zero => intros; exact S_none
  | succ k ih => intro  a1 a2 a3 h; exact pL_law_b18 n xs ih  a1 a2 a3 h
theorem pL_law_e (n : Nat) (xs : Nat → Int32)    (h : xH) : S emI (kL_law n xs) h 0 [(0, .ref 1)] [] h (fL_law n xs  h) := by
  unfold fL_law
  refine s_new (pc := 0) nt_L_7 dv_6 (show decode cL_law 0 = .ok (.new 7, 3) by decide +kernel) ?_
  refine s_nmN (fun q2 g1 c4 e3 => ?_)
  refine s_dup_a (pc := 3) (show decode cL_law 3 = .ok (.dup, 1) by decide +kernel) ?_
  refine s_cI (pc := 4) [] (tX6_init q2 g1) (k2r c4 (by decide)) rfl cw_L_9 rfl ⟨⟨Nat.le_of_ble_eq_true rfl, Nat.le_of_ble_eq_true rfl⟩, Nat.le_of_ble_eq_true rfl⟩ rfl (show decode cL_law 4 = .ok (.invokespecial 9, 3) by decide +kernel) (fun _ g5 e6 => ?_)
  refine s_astore_n (pc := 7) (L' := [(1, .ref q2), (0, .ref 1)]) (k0 := 1) (i := 1) rfl (Nat.le_of_ble_eq_true rfl) rfl (show decode cL_law 7 = .ok (.astore_n 1, 1) by decide +kernel) ?_
  refine s_new (pc := 8) nt_L_10 dv_7 (show decode cL_law 8 = .ok (.new 10, 3) by decide +kernel) ?_
  refine s_nmN (fun q8 g7 c10 e9 => ?_)
  refine s_dup_a (pc := 11) (show decode cL_law 11 = .ok (.dup, 1) by decide +kernel) ?_
  refine s_cI (pc := 12) [] (tX7_init q8 g7) (k2r c10 (by decide)) rfl cw_L_12 rfl ⟨⟨Nat.le_of_ble_eq_true rfl, Nat.le_of_ble_eq_true rfl⟩, Nat.le_of_ble_eq_true rfl⟩ rfl (show decode cL_law 12 = .ok (.invokespecial 12, 3) by decide +kernel) (fun _ g11 e12 => ?_)
  refine s_astore_n (pc := 15) (L' := [(2, .ref q8), (1, .ref q2), (0, .ref 1)]) (k0 := 2) (i := 2) rfl (Nat.le_of_ble_eq_true rfl) rfl (show decode cL_law 15 = .ok (.astore_n 2, 1) by decide +kernel) ?_
  refine s_iconst (pc := 16) (n := 0) (v := (0 : Int32)) (by decide) (show decode cL_law 16 = .ok (.iconst 0, 1) by decide +kernel) ?_
  refine s_nmI (fun v13 => ?_)
  refine s_istore_n (pc := 17) (L' := [(3, .int v13), (2, .ref q8), (1, .ref q2), (0, .ref 1)]) (k0 := 3) (i := 3) rfl (Nat.le_of_ble_eq_true rfl) rfl (show decode cL_law 17 = .ok (.istore_n 3, 1) by decide +kernel) ?_
  refine S_sub [3, 2, 1, 0] rfl ?_
  exact pL_law_l18 n xs FU q2 q8 v13 g11
