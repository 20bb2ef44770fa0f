def fX7_init   (a0 : Nat) (h : xH) : Option (Unit × xH) :=
  if kc h a0 = 7 then
  lt (hnx h) (fun q3 => lt (hnew h 8 (7 : Int32).toNatClampNeg) (fun g2 =>
  lt (sR g2 a0 2 q3) (fun g7 =>
  lt (hnx g7) (fun q10 => lt (hnew g7 8 (222 : Int32).toNatClampNeg) (fun g9 =>
  lt (sR g9 a0 3 q10) (fun g14 =>
  lt (hnx g14) (fun q17 => lt (hnew g14 9 (6400 : Int32).toNatClampNeg) (fun g16 =>
  lt (sR g16 a0 5 q17) (fun g21 =>
  lt (hnx g21) (fun q24 => lt (hnew g21 10 (1600 : Int32).toNatClampNeg) (fun g23 =>
  lt (sR g23 a0 6 q24) (fun g28 =>
  lt (hnx g28) (fun q31 => lt (hnew g28 8 (1776 : Int32).toNatClampNeg) (fun g30 =>
  lt (sR g30 a0 7 q31) (fun g35 =>
  lt (hnx g35) (fun q38 => lt (hnew g35 8 (8 : Int32).toNatClampNeg) (fun g37 =>
  lt (sR g37 a0 8 q38) (fun g42 =>
  lt (hnx g42) (fun q45 => lt (hnew g42 9 (51200 : Int32).toNatClampNeg) (fun g44 =>
  lt (sR g44 a0 9 q45) (fun g49 =>
  lt (hnx g49) (fun q52 => lt (hnew g49 10 (12800 : Int32).toNatClampNeg) (fun g51 =>
  lt (sR g51 a0 10 q52) (fun g56 =>
  lt (hnx g56) (fun q59 => lt (hnew g56 8 (8 : Int32).toNatClampNeg) (fun g58 =>
  lt (sR g58 a0 11 q59) (fun g63 =>
  lt (hnx g63) (fun q66 => lt (hnew g63 8 (444 : Int32).toNatClampNeg) (fun g65 =>
  lt (sR g65 a0 13 q66) (fun g70 =>
  lt (hnx g70) (fun q73 => lt (hnew g70 8 (2 : Int32).toNatClampNeg) (fun g72 =>
  lt (sR g72 a0 14 q73) (fun g77 =>
  lt (hnx g77) (fun q80 => lt (hnew g77 9 (12800 : Int32).toNatClampNeg) (fun g79 =>
  lt (sR g79 a0 15 q80) (fun g84 =>
  lt (hnx g84) (fun q87 => lt (hnew g84 10 (3200 : Int32).toNatClampNeg) (fun g86 =>
  lt (sR g86 a0 16 q87) (fun g91 =>
  lt (hnx g91) (fun q94 => lt (hnew g91 10 (2 : Int32).toNatClampNeg) (fun g93 =>
  lt (sR g93 a0 17 q94) (fun g98 =>
  lt (hnx g98) (fun q101 => lt (hnew g98 8 (700 : Int32).toNatClampNeg) (fun g100 =>
  lt (sR g100 a0 20 q101) (fun g105 =>
  lt (hnx g105) (fun q108 => lt (hnew g105 8 (700 : Int32).toNatClampNeg) (fun g107 =>
  lt (sR g107 a0 21 q108) (fun g112 =>
  lt (hnx g112) (fun q115 => lt (hnew g112 9 (700 : Int32).toNatClampNeg) (fun g114 =>
  lt (sR g114 a0 22 q115) (fun g119 =>
  lt (hnx g119) (fun q122 => lt (hnew g119 9 (700 : Int32).toNatClampNeg) (fun g121 =>
  lt (sR g121 a0 23 q122) (fun g126 =>
  lt (hnx g126) (fun q129 => lt (hnew g126 9 (700 : Int32).toNatClampNeg) (fun g128 =>
  lt (sR g128 a0 24 q129) (fun g133 =>
  lt (hnx g133) (fun q136 => lt (hnew g133 8 (96 : Int32).toNatClampNeg) (fun g135 =>
  lt (sR g135 a0 25 q136) (fun g140 =>
  lt (hnx g140) (fun q143 => lt (hnew g140 9 (16000 : Int32).toNatClampNeg) (fun g142 =>
  lt (sR g142 a0 28 q143) (fun g147 =>
  lt (hnx g147) (fun q150 => lt (hnew g147 9 (16000 : Int32).toNatClampNeg) (fun g149 =>
  lt (sR g149 a0 29 q150) (fun g154 =>
  lt (hnx g154) (fun q157 => lt (hnew g154 9 (8000 : Int32).toNatClampNeg) (fun g156 =>
  lt (sR g156 a0 32 q157) (fun g161 =>
  lt (hnx g161) (fun q164 => lt (hnew g161 8 (13 : Int32).toNatClampNeg) (fun g163 =>
  lt (sR g163 a0 33 q164) (fun g168 =>
  lt (hnx g168) (fun q171 => lt (hnew g168 8 (13 : Int32).toNatClampNeg) (fun g170 =>
  lt (sR g170 a0 34 q171) (fun g175 =>
  lt (hnx g175) (fun q178 => lt (hnew g175 11 (400 : Int32).toNatClampNeg) (fun g177 =>
  lt (sR g177 a0 35 q178) (fun g182 =>
  lt (sI g182 a0 37 (-1 : Int32)) (fun g185 =>
  lt (hnx g185) (fun q188 => lt (hnew g185 8 (12 : Int32).toNatClampNeg) (fun g187 =>
  lt (sR g187 a0 41 q188) (fun g192 =>
  lt (hnx g192) (fun q195 => lt (hnew g192 8 (12 : Int32).toNatClampNeg) (fun g194 =>
  lt (sR g194 a0 42 q195) (fun g199 =>
  lt (hnx g199) (fun q202 => lt (hnew g199 10 (12 : Int32).toNatClampNeg) (fun g201 =>
  lt (sR g201 a0 43 q202) (fun g206 =>
  some ((), g206)))))))))))))))))))))))))))))))))))))))))))))))))))))))))))))))))))))))))))))))))))))))))
  else none
theorem pX7_init_e    (a0 : Nat) (h : xH) : S emV kX7_init h 0 [(0, .ref a0)] [] h (fX7_init  a0 h) := by
  unfold fX7_init
  refine s_aload_n (pc := 0) (k0 := 0) (i := 0) rfl 0 rfl (by decide +kernel) ?_
  refine S_gd (fun c1 => ?_)
  refine s_objInit (pc := 1) (index := 3) (k2r c1 (by decide)) ml_X7_3 oi_1 oi_2 (by decide) (by decide +kernel) ?_
  refine s_aload_n (pc := 4) (k0 := 0) (i := 0) rfl 0 rfl (by decide +kernel) ?_
  refine s_bipush (pc := 5) (n := 7) (v := (7 : Int32)) (by decide) (by decide +kernel) ?_
  refine s_newI (pc := 7) (by decide) (by decide +kernel) ?_
  refine s_nmN (fun q3 g2 c5 e4 => ?_)
  have c6 := kp e4 c1 (by decide)
  refine s_putR (pc := 9) (k := 2) c6 ft_X7_9 fwF_7_2 rfl rfl (by decide +kernel) ?_
  refine s_nmH (o := g2) rfl (fun g7 e8 => ?_)
  refine s_aload_n (pc := 12) (k0 := 0) (i := 0) rfl 0 rfl (by decide +kernel) ?_
  refine s_sipush (pc := 13) (n := 222) (v := (222 : Int32)) (by decide) (by decide +kernel) ?_
  refine s_newI (pc := 16) (by decide) (by decide +kernel) ?_
  refine s_nmN (fun q10 g9 c12 e11 => ?_)
  have c13 := kp (Le.tr e8 e11) c6 (by decide)
  refine s_putR (pc := 18) (k := 3) c13 ft_X7_15 fwF_7_3 rfl rfl (by decide +kernel) ?_
  refine s_nmH (o := g9) rfl (fun g14 e15 => ?_)
  refine s_aload_n (pc := 21) (k0 := 0) (i := 0) rfl 0 rfl (by decide +kernel) ?_
  refine s_sipush (pc := 22) (n := 6400) (v := (6400 : Int32)) (by decide) (by decide +kernel) ?_
  refine s_newJ (pc := 25) (by decide) (by decide +kernel) ?_
  refine s_nmN (fun q17 g16 c19 e18 => ?_)
  have c20 := kp (Le.tr e15 e18) c13 (by decide)
  refine s_putR (pc := 27) (k := 5) c20 ft_X7_18 fwF_7_5 rfl rfl (by decide +kernel) ?_
  refine s_nmH (o := g16) rfl (fun g21 e22 => ?_)
  refine s_aload_n (pc := 30) (k0 := 0) (i := 0) rfl 0 rfl (by decide +kernel) ?_
  refine s_sipush (pc := 31) (n := 1600) (v := (1600 : Int32)) (by decide) (by decide +kernel) ?_
  refine s_newZ (pc := 34) (by decide) (by decide +kernel) ?_
  refine s_nmN (fun q24 g23 c26 e25 => ?_)
  have c27 := kp (Le.tr e22 e25) c20 (by decide)
  refine s_putR (pc := 36) (k := 6) c27 ft_X7_22 fwF_7_6 rfl rfl (by decide +kernel) ?_
  refine s_nmH (o := g23) rfl (fun g28 e29 => ?_)
  refine s_aload_n (pc := 39) (k0 := 0) (i := 0) rfl 0 rfl (by decide +kernel) ?_
  refine s_sipush (pc := 40) (n := 1776) (v := (1776 : Int32)) (by decide) (by decide +kernel) ?_
  refine s_newI (pc := 43) (by decide) (by decide +kernel) ?_
  refine s_nmN (fun q31 g30 c33 e32 => ?_)
  have c34 := kp (Le.tr e29 e32) c27 (by decide)
  refine s_putR (pc := 45) (k := 7) c34 ft_X7_26 fwF_7_7 rfl rfl (by decide +kernel) ?_
  refine s_nmH (o := g30) rfl (fun g35 e36 => ?_)
  refine s_aload_n (pc := 48) (k0 := 0) (i := 0) rfl 0 rfl (by decide +kernel) ?_
  refine s_bipush (pc := 49) (n := 8) (v := (8 : Int32)) (by decide) (by decide +kernel) ?_
  refine s_newI (pc := 51) (by decide) (by decide +kernel) ?_
  refine s_nmN (fun q38 g37 c40 e39 => ?_)
  have c41 := kp (Le.tr e36 e39) c34 (by decide)
  refine s_putR (pc := 53) (k := 8) c41 ft_X7_29 fwF_7_8 rfl rfl (by decide +kernel) ?_
  refine s_nmH (o := g37) rfl (fun g42 e43 => ?_)
  refine s_aload_n (pc := 56) (k0 := 0) (i := 0) rfl 0 rfl (by decide +kernel) ?_
  refine s_ldc (pc := 57) (v := (51200 : Int32)) (index := 32) (gd_of 855 (by decide +kernel) rfl) (by decide +kernel) ?_
  refine s_newJ (pc := 59) (by decide) (by decide +kernel) ?_
  refine s_nmN (fun q45 g44 c47 e46 => ?_)
  have c48 := kp (Le.tr e43 e46) c41 (by decide)
  refine s_putR (pc := 61) (k := 9) c48 ft_X7_33 fwF_7_9 rfl rfl (by decide +kernel) ?_
  refine s_nmH (o := g44) rfl (fun g49 e50 => ?_)
  refine s_aload_n (pc := 64) (k0 := 0) (i := 0) rfl 0 rfl (by decide +kernel) ?_
  refine s_sipush (pc := 65) (n := 12800) (v := (12800 : Int32)) (by decide) (by decide +kernel) ?_
  refine s_newZ (pc := 68) (by decide) (by decide +kernel) ?_
  refine s_nmN (fun q52 g51 c54 e53 => ?_)
  have c55 := kp (Le.tr e50 e53) c48 (by decide)
  refine s_putR (pc := 70) (k := 10) c55 ft_X7_36 fwF_7_10 rfl rfl (by decide +kernel) ?_
  refine s_nmH (o := g51) rfl (fun g56 e57 => ?_)
  refine s_aload_n (pc := 73) (k0 := 0) (i := 0) rfl 0 rfl (by decide +kernel) ?_
  refine s_bipush (pc := 74) (n := 8) (v := (8 : Int32)) (by decide) (by decide +kernel) ?_
  refine s_newI (pc := 76) (by decide) (by decide +kernel) ?_
  refine s_nmN (fun q59 g58 c61 e60 => ?_)
  have c62 := kp (Le.tr e57 e60) c55 (by decide)
  refine s_putR (pc := 78) (k := 11) c62 ft_X7_39 fwF_7_11 rfl rfl (by decide +kernel) ?_
  refine s_nmH (o := g58) rfl (fun g63 e64 => ?_)
  refine s_aload_n (pc := 81) (k0 := 0) (i := 0) rfl 0 rfl (by decide +kernel) ?_
  refine s_sipush (pc := 82) (n := 444) (v := (444 : Int32)) (by decide) (by decide +kernel) ?_
  refine s_newI (pc := 85) (by decide) (by decide +kernel) ?_
  refine s_nmN (fun q66 g65 c68 e67 => ?_)
  have c69 := kp (Le.tr e64 e67) c62 (by decide)
  refine s_putR (pc := 87) (k := 13) c69 ft_X7_42 fwF_7_13 rfl rfl (by decide +kernel) ?_
  refine s_nmH (o := g65) rfl (fun g70 e71 => ?_)
  refine s_aload_n (pc := 90) (k0 := 0) (i := 0) rfl 0 rfl (by decide +kernel) ?_
  refine s_iconst (pc := 91) (n := 2) (v := (2 : Int32)) (by decide) (by decide +kernel) ?_
  refine s_newI (pc := 92) (by decide) (by decide +kernel) ?_
  refine s_nmN (fun q73 g72 c75 e74 => ?_)
  have c76 := kp (Le.tr e71 e74) c69 (by decide)
  refine s_putR (pc := 94) (k := 14) c76 ft_X7_45 fwF_7_14 rfl rfl (by decide +kernel) ?_
  refine s_nmH (o := g72) rfl (fun g77 e78 => ?_)
  refine s_aload_n (pc := 97) (k0 := 0) (i := 0) rfl 0 rfl (by decide +kernel) ?_
  refine s_sipush (pc := 98) (n := 12800) (v := (12800 : Int32)) (by decide) (by decide +kernel) ?_
  refine s_newJ (pc := 101) (by decide) (by decide +kernel) ?_
  refine s_nmN (fun q80 g79 c82 e81 => ?_)
  have c83 := kp (Le.tr e78 e81) c76 (by decide)
  refine s_putR (pc := 103) (k := 15) c83 ft_X7_48 fwF_7_15 rfl rfl (by decide +kernel) ?_
  refine s_nmH (o := g79) rfl (fun g84 e85 => ?_)
  refine s_aload_n (pc := 106) (k0 := 0) (i := 0) rfl 0 rfl (by decide +kernel) ?_
  refine s_sipush (pc := 107) (n := 3200) (v := (3200 : Int32)) (by decide) (by decide +kernel) ?_
  refine s_newZ (pc := 110) (by decide) (by decide +kernel) ?_
  refine s_nmN (fun q87 g86 c89 e88 => ?_)
  have c90 := kp (Le.tr e85 e88) c83 (by decide)
  refine s_putR (pc := 112) (k := 16) c90 ft_X7_51 fwF_7_16 rfl rfl (by decide +kernel) ?_
  refine s_nmH (o := g86) rfl (fun g91 e92 => ?_)
  refine s_aload_n (pc := 115) (k0 := 0) (i := 0) rfl 0 rfl (by decide +kernel) ?_
  refine s_iconst (pc := 116) (n := 2) (v := (2 : Int32)) (by decide) (by decide +kernel) ?_
  refine s_newZ (pc := 117) (by decide) (by decide +kernel) ?_
  refine s_nmN (fun q94 g93 c96 e95 => ?_)
  have c97 := kp (Le.tr e92 e95) c90 (by decide)
  refine s_putR (pc := 119) (k := 17) c97 ft_X7_54 fwF_7_17 rfl rfl (by decide +kernel) ?_
  refine s_nmH (o := g93) rfl (fun g98 e99 => ?_)
  refine s_aload_n (pc := 122) (k0 := 0) (i := 0) rfl 0 rfl (by decide +kernel) ?_
  refine s_sipush (pc := 123) (n := 700) (v := (700 : Int32)) (by decide) (by decide +kernel) ?_
  refine s_newI (pc := 126) (by decide) (by decide +kernel) ?_
  refine s_nmN (fun q101 g100 c103 e102 => ?_)
  have c104 := kp (Le.tr e99 e102) c97 (by decide)
  refine s_putR (pc := 128) (k := 20) c104 ft_X7_57 fwF_7_20 rfl rfl (by decide +kernel) ?_
  refine s_nmH (o := g100) rfl (fun g105 e106 => ?_)
  refine s_aload_n (pc := 131) (k0 := 0) (i := 0) rfl 0 rfl (by decide +kernel) ?_
  refine s_sipush (pc := 132) (n := 700) (v := (700 : Int32)) (by decide) (by decide +kernel) ?_
  refine s_newI (pc := 135) (by decide) (by decide +kernel) ?_
  refine s_nmN (fun q108 g107 c110 e109 => ?_)
  have c111 := kp (Le.tr e106 e109) c104 (by decide)
  refine s_putR (pc := 137) (k := 21) c111 ft_X7_60 fwF_7_21 rfl rfl (by decide +kernel) ?_
  refine s_nmH (o := g107) rfl (fun g112 e113 => ?_)
  refine s_aload_n (pc := 140) (k0 := 0) (i := 0) rfl 0 rfl (by decide +kernel) ?_
  refine s_sipush (pc := 141) (n := 700) (v := (700 : Int32)) (by decide) (by decide +kernel) ?_
  refine s_newJ (pc := 144) (by decide) (by decide +kernel) ?_
  refine s_nmN (fun q115 g114 c117 e116 => ?_)
  have c118 := kp (Le.tr e113 e116) c111 (by decide)
  refine s_putR (pc := 146) (k := 22) c118 ft_X7_63 fwF_7_22 rfl rfl (by decide +kernel) ?_
  refine s_nmH (o := g114) rfl (fun g119 e120 => ?_)
  refine s_aload_n (pc := 149) (k0 := 0) (i := 0) rfl 0 rfl (by decide +kernel) ?_
  refine s_sipush (pc := 150) (n := 700) (v := (700 : Int32)) (by decide) (by decide +kernel) ?_
  refine s_newJ (pc := 153) (by decide) (by decide +kernel) ?_
  refine s_nmN (fun q122 g121 c124 e123 => ?_)
  have c125 := kp (Le.tr e120 e123) c118 (by decide)
  refine s_putR (pc := 155) (k := 23) c125 ft_X7_66 fwF_7_23 rfl rfl (by decide +kernel) ?_
  refine s_nmH (o := g121) rfl (fun g126 e127 => ?_)
  refine s_aload_n (pc := 158) (k0 := 0) (i := 0) rfl 0 rfl (by decide +kernel) ?_
  refine s_sipush (pc := 159) (n := 700) (v := (700 : Int32)) (by decide) (by decide +kernel) ?_
  refine s_newJ (pc := 162) (by decide) (by decide +kernel) ?_
  refine s_nmN (fun q129 g128 c131 e130 => ?_)
  have c132 := kp (Le.tr e127 e130) c125 (by decide)
  refine s_putR (pc := 164) (k := 24) c132 ft_X7_69 fwF_7_24 rfl rfl (by decide +kernel) ?_
  refine s_nmH (o := g128) rfl (fun g133 e134 => ?_)
  refine s_aload_n (pc := 167) (k0 := 0) (i := 0) rfl 0 rfl (by decide +kernel) ?_
  refine s_bipush (pc := 168) (n := 96) (v := (96 : Int32)) (by decide) (by decide +kernel) ?_
  refine s_newI (pc := 170) (by decide) (by decide +kernel) ?_
  refine s_nmN (fun q136 g135 c138 e137 => ?_)
  have c139 := kp (Le.tr e134 e137) c132 (by decide)
  refine s_putR (pc := 172) (k := 25) c139 ft_X7_72 fwF_7_25 rfl rfl (by decide +kernel) ?_
  refine s_nmH (o := g135) rfl (fun g140 e141 => ?_)
  refine s_aload_n (pc := 175) (k0 := 0) (i := 0) rfl 0 rfl (by decide +kernel) ?_
  refine s_sipush (pc := 176) (n := 16000) (v := (16000 : Int32)) (by decide) (by decide +kernel) ?_
  refine s_newJ (pc := 179) (by decide) (by decide +kernel) ?_
  refine s_nmN (fun q143 g142 c145 e144 => ?_)
  have c146 := kp (Le.tr e141 e144) c139 (by decide)
  refine s_putR (pc := 181) (k := 28) c146 ft_X7_75 fwF_7_28 rfl rfl (by decide +kernel) ?_
  refine s_nmH (o := g142) rfl (fun g147 e148 => ?_)
  refine s_aload_n (pc := 184) (k0 := 0) (i := 0) rfl 0 rfl (by decide +kernel) ?_
  refine s_sipush (pc := 185) (n := 16000) (v := (16000 : Int32)) (by decide) (by decide +kernel) ?_
  refine s_newJ (pc := 188) (by decide) (by decide +kernel) ?_
  refine s_nmN (fun q150 g149 c152 e151 => ?_)
  have c153 := kp (Le.tr e148 e151) c146 (by decide)
  refine s_putR (pc := 190) (k := 29) c153 ft_X7_78 fwF_7_29 rfl rfl (by decide +kernel) ?_
  refine s_nmH (o := g149) rfl (fun g154 e155 => ?_)
  refine s_aload_n (pc := 193) (k0 := 0) (i := 0) rfl 0 rfl (by decide +kernel) ?_
  refine s_sipush (pc := 194) (n := 8000) (v := (8000 : Int32)) (by decide) (by decide +kernel) ?_
  refine s_newJ (pc := 197) (by decide) (by decide +kernel) ?_
  refine s_nmN (fun q157 g156 c159 e158 => ?_)
  have c160 := kp (Le.tr e155 e158) c153 (by decide)
  refine s_putR (pc := 199) (k := 32) c160 ft_X7_81 fwF_7_32 rfl rfl (by decide +kernel) ?_
  refine s_nmH (o := g156) rfl (fun g161 e162 => ?_)
  refine s_aload_n (pc := 202) (k0 := 0) (i := 0) rfl 0 rfl (by decide +kernel) ?_
  refine s_bipush (pc := 203) (n := 13) (v := (13 : Int32)) (by decide) (by decide +kernel) ?_
  refine s_newI (pc := 205) (by decide) (by decide +kernel) ?_
  refine s_nmN (fun q164 g163 c166 e165 => ?_)
  have c167 := kp (Le.tr e162 e165) c160 (by decide)
  refine s_putR (pc := 207) (k := 33) c167 ft_X7_84 fwF_7_33 rfl rfl (by decide +kernel) ?_
  refine s_nmH (o := g163) rfl (fun g168 e169 => ?_)
  refine s_aload_n (pc := 210) (k0 := 0) (i := 0) rfl 0 rfl (by decide +kernel) ?_
  refine s_bipush (pc := 211) (n := 13) (v := (13 : Int32)) (by decide) (by decide +kernel) ?_
  refine s_newI (pc := 213) (by decide) (by decide +kernel) ?_
  refine s_nmN (fun q171 g170 c173 e172 => ?_)
  have c174 := kp (Le.tr e169 e172) c167 (by decide)
  refine s_putR (pc := 215) (k := 34) c174 ft_X7_87 fwF_7_34 rfl rfl (by decide +kernel) ?_
  refine s_nmH (o := g170) rfl (fun g175 e176 => ?_)
  refine s_aload_n (pc := 218) (k0 := 0) (i := 0) rfl 0 rfl (by decide +kernel) ?_
  refine s_sipush (pc := 219) (n := 400) (v := (400 : Int32)) (by decide) (by decide +kernel) ?_
  refine s_newB (pc := 222) (by decide) (by decide +kernel) ?_
  refine s_nmN (fun q178 g177 c180 e179 => ?_)
  have c181 := kp (Le.tr e176 e179) c174 (by decide)
  refine s_putR (pc := 224) (k := 35) c181 ft_X7_90 fwF_7_35 rfl rfl (by decide +kernel) ?_
  refine s_nmH (o := g177) rfl (fun g182 e183 => ?_)
  refine s_aload_n (pc := 227) (k0 := 0) (i := 0) rfl 0 rfl (by decide +kernel) ?_
  refine s_iconst (pc := 228) (n := -1) (v := (-1 : Int32)) (by decide) (by decide +kernel) ?_
  have c184 := kp e183 c181 (by decide)
  refine s_putI (pc := 229) (k := 37) c184 ft_X7_94 (fw_7_37 _ _) rfl rfl (by decide +kernel) ?_
  refine s_nmH (o := g182) rfl (fun g185 e186 => ?_)
  refine s_aload_n (pc := 232) (k0 := 0) (i := 0) rfl 0 rfl (by decide +kernel) ?_
  refine s_bipush (pc := 233) (n := 12) (v := (12 : Int32)) (by decide) (by decide +kernel) ?_
  refine s_newI (pc := 235) (by decide) (by decide +kernel) ?_
  refine s_nmN (fun q188 g187 c190 e189 => ?_)
  have c191 := kp (Le.tr e186 e189) c184 (by decide)
  refine s_putR (pc := 237) (k := 41) c191 ft_X7_98 fwF_7_41 rfl rfl (by decide +kernel) ?_
  refine s_nmH (o := g187) rfl (fun g192 e193 => ?_)
  refine s_aload_n (pc := 240) (k0 := 0) (i := 0) rfl 0 rfl (by decide +kernel) ?_
  refine s_bipush (pc := 241) (n := 12) (v := (12 : Int32)) (by decide) (by decide +kernel) ?_
  refine s_newI (pc := 243) (by decide) (by decide +kernel) ?_
  refine s_nmN (fun q195 g194 c197 e196 => ?_)
  have c198 := kp (Le.tr e193 e196) c191 (by decide)
  refine s_putR (pc := 245) (k := 42) c198 ft_X7_101 fwF_7_42 rfl rfl (by decide +kernel) ?_
  refine s_nmH (o := g194) rfl (fun g199 e200 => ?_)
  refine s_aload_n (pc := 248) (k0 := 0) (i := 0) rfl 0 rfl (by decide +kernel) ?_
  refine s_bipush (pc := 249) (n := 12) (v := (12 : Int32)) (by decide) (by decide +kernel) ?_
  refine s_newZ (pc := 251) (by decide) (by decide +kernel) ?_
  refine s_nmN (fun q202 g201 c204 e203 => ?_)
  have c205 := kp (Le.tr e200 e203) c198 (by decide)
  refine s_putR (pc := 253) (k := 43) c205 ft_X7_104 fwF_7_43 rfl rfl (by decide +kernel) ?_
  refine s_nmH (o := g201) rfl (fun g206 e207 => ?_)
  exact s_vret (pc := 256) rfl (by decide +kernel)
theorem tX7_init (a0 : Nat) (h : xH) : Ct yX7_init kX7_init emV [.ref a0] h (fX7_init a0 h) := Ct_of (by decide +kernel) rfl rfl rfl (Nat.le_of_ble_eq_true rfl) rfl (pX7_init_e a0 h)
def fX7_comes_b3 (r3 : Nat → Int32 → Int32 → xH → Option (Unit × xH))  (a0 : Nat) (a1 : Int32) (a2 : Int32) (h : xH) : Option (Unit × xH) :=
  if a2 < 0 then (
  some ((), h))
  else (
  if kc h a0 = 7 then
  if kc h (hR h a0 35) = 11 then
  if ix (hI h a0 36) (kl h (hR h a0 35)) then
  lt (sI h (hR h a0 35) (hI h a0 36).toNatClampNeg (((a1.toUInt32 >>> (a2.toUInt32 &&& Int32.toUInt32 31)).toInt32).toInt8.toInt32).toInt8.toInt32) (fun g4 =>
  lt (sI g4 a0 36 ((hI g4 a0 36) + (1 : Int32))) (fun g7 =>
  lt (a2 + (-8 : Int32)) (fun v9 =>
  r3 a0 a1 v9 g7)))
  else none
  else none
  else none)
def fX7_comes_l3  : Nat → Nat → Int32 → Int32 → xH → Option (Unit × xH)
  | 0 => fun _ _ _ _ => none
  | k + 1 => fX7_comes_b3 (fX7_comes_l3  k)
def fX7_comes   (a0 : Nat) (a1 : Int32) (h : xH) : Option (Unit × xH) :=
  lt (24 : Int32) (fun v1 =>
  fX7_comes_l3 FU a0 a1 v1 h)
theorem pX7_comes_b3 {h0 : xH} {r3 : Nat → Int32 → Int32 → xH → Option (Unit × xH)} (hr3 : ∀  (a0 : Nat) (a1 : Int32) (a2 : Int32) (g : xH), S emV kX7_comes h0 3 [(0, .ref a0), (1, .int a1), (2, .int a2)] [] g (r3  a0 a1 a2 g))  (a0 : Nat) (a1 : Int32) (a2 : Int32) (h : xH) : S emV kX7_comes h0 3 [(0, .ref a0), (1, .int a1), (2, .int a2)] [] h (fX7_comes_b3 r3 a0 a1 a2 h) := by
  unfold fX7_comes_b3
  refine s_iload_n (pc := 3) (k0 := 2) (i := 2) rfl 2 rfl (by decide +kernel) ?_
  refine s_if_lt (pc := 4) (off := 32) 36 (by decide +kernel) (by decide) (fun _ => ?_) (fun _ => ?_)
  · exact s_vret (pc := 36) rfl (by decide +kernel)
  · refine s_aload_n (pc := 7) (k0 := 0) (i := 0) rfl 0 rfl (by decide +kernel) ?_
    refine S_gd (fun c1 => ?_)
    refine s_getR (pc := 8) (k := 35) c1 ft_X7_90 rfl (by decide +kernel) ?_
    refine s_aload_n (pc := 11) (k0 := 0) (i := 0) rfl 0 rfl (by decide +kernel) ?_
    refine s_getI (pc := 12) (k := 36) c1 ft_X7_283 rfl (by decide +kernel) ?_
    refine s_iload_n (pc := 15) (k0 := 1) (i := 1) rfl 1 rfl (by decide +kernel) ?_
    refine s_iload_n (pc := 16) (k0 := 2) (i := 2) rfl 2 rfl (by decide +kernel) ?_
    refine s_iushr (pc := 17) (by decide +kernel) ?_
    refine s_i2b (pc := 18) (by decide +kernel) ?_
    refine S_gd (fun c2 => ?_)
    refine S_gd (fun c3 => ?_)
    refine s_bast (pc := 19) c2 c3 (by decide +kernel) ?_
    refine s_nmH (o := h) rfl (fun g4 e5 => ?_)
    refine s_aload_n (pc := 20) (k0 := 0) (i := 0) rfl 0 rfl (by decide +kernel) ?_
    refine s_dup_a (pc := 21) (by decide +kernel) ?_
    have c6 := kp e5 c1 (by decide)
    refine s_getI (pc := 22) (k := 36) c6 ft_X7_283 rfl (by decide +kernel) ?_
    refine s_iconst (pc := 25) (n := 1) (v := (1 : Int32)) (by decide) (by decide +kernel) ?_
    refine s_iadd (pc := 26) (by decide +kernel) ?_
    refine s_putI (pc := 27) (k := 36) c6 ft_X7_283 (fw_7_36 _ _) rfl rfl (by decide +kernel) ?_
    refine s_nmH (o := g4) rfl (fun g7 e8 => ?_)
    refine s_iinc (pc := 30) (L' := [(2, .int (a2 + (-8 : Int32))), (0, .ref a0), (1, .int a1)]) (i := 2) (n := -8) 2 rfl rfl (by decide) rfl (by decide +kernel) ?_
    refine s_nmI0 (e := a2 + (-8 : Int32)) (L := fun v9 => [(2, .int v9), (0, .ref a0), (1, .int a1)]) (fun v9 => ?_)
    refine s_goto (pc := 33) (off := -30) 3 (by decide +kernel) (by decide) ?_
    refine S_sub [1, 2, 0] rfl ?_
    exact hr3 a0 a1 v9 g7
theorem pX7_comes_l3 {h0 : xH}   : ∀ (k : Nat)  (a0 : Nat) (a1 : Int32) (a2 : Int32) (h : xH), S emV kX7_comes h0 3 [(0, .ref a0), (1, .int a1), (2, .int a2)] [] h (fX7_comes_l3  k  a0 a1 a2 h) := by
  intro k
  induction k with
  | zero => intros; exact S_none
  | succ k ih => intro  a0 a1 a2 h; exact pX7_comes_b3 ih  a0 a1 a2 h
theorem pX7_comes_e    (a0 : Nat) (a1 : Int32) (h : xH) : S emV kX7_comes h 0 [(0, .ref a0), (1, .int a1)] [] h (fX7_comes  a0 a1 h) := by
  unfold fX7_comes
  refine s_bipush (pc := 0) (n := 24) (v := (24 : Int32)) (by decide) (by decide +kernel) ?_
  refine s_nmI (fun v1 => ?_)
  refine s_istore_n (pc := 2) (L' := [(2, .int v1), (0, .ref a0), (1, .int a1)]) (k0 := 2) (i := 2) rfl (by decide) rfl (by decide +kernel) ?_
  refine S_sub [1, 2, 0] rfl ?_
  exact pX7_comes_l3 FU a0 a1 v1 h
theorem tX7_comes (a0 : Nat) (a1 : Int32) (h : xH) : Ct yX7_comes kX7_comes emV [.ref a0, .int a1] h (fX7_comes a0 a1 h) := Ct_of (by decide +kernel) rfl rfl rfl (Nat.le_of_ble_eq_true rfl) rfl (pX7_comes_e a0 a1 h)
def fX7_feed   (a0 : Nat) (a1 : Int32) (a2 : Int32) (a3 : Int32) (a4 : Int32) (a5 : Int32) (h : xH) : Option (Int32 × xH) :=
  if kc h a0 = 7 then
  lt (sI h a0 0 (0 : Int32)) (fun g2 =>
  if (hI g2 a0 36) ≤ (380 : Int32) then (
  bd (fX7_comes a0 a1 g2) (fun _ g5 =>
  bd (fX7_comes a0 a2 g5) (fun _ g8 =>
  bd (fX7_comes a0 a3 g8) (fun _ g11 =>
  bd (fX7_comes a0 a4 g11) (fun _ g14 =>
  bd (fX7_comes a0 a5 g14) (fun _ g17 =>
  some ((hI g17 a0 36), g17)))))))
  else (
  some ((-1 : Int32), g2)))
  else none
theorem pX7_feed_e    (a0 : Nat) (a1 : Int32) (a2 : Int32) (a3 : Int32) (a4 : Int32) (a5 : Int32) (h : xH) : S emI kX7_feed h 0 [(0, .ref a0), (1, .int a1), (2, .int a2), (3, .int a3), (4, .int a4), (5, .int a5)] [] h (fX7_feed  a0 a1 a2 a3 a4 a5 h) := by
  unfold fX7_feed
  refine s_aload_n (pc := 0) (k0 := 0) (i := 0) rfl 0 rfl (by decide +kernel) ?_
  refine s_iconst (pc := 1) (n := 0) (v := (0 : Int32)) (by decide) (by decide +kernel) ?_
  refine S_gd (fun c1 => ?_)
  refine s_putI (pc := 2) (k := 0) c1 ft_X7_107 (fw_7_0 _ _) rfl rfl (by decide +kernel) ?_
  refine s_nmH (o := h) rfl (fun g2 e3 => ?_)
  refine s_aload_n (pc := 5) (k0 := 0) (i := 0) rfl 0 rfl (by decide +kernel) ?_
  have c4 := kp e3 c1 (by decide)
  refine s_getI (pc := 6) (k := 36) c4 ft_X7_283 rfl (by decide +kernel) ?_
  refine s_sipush (pc := 9) (n := 380) (v := (380 : Int32)) (by decide) (by decide +kernel) ?_
  refine s_icmp_le (pc := 12) (off := 5) 17 (by decide +kernel) (by decide) (fun _ => ?_) (fun _ => ?_)
  · refine s_aload_n (pc := 17) (k0 := 0) (i := 0) rfl 0 rfl (by decide +kernel) ?_
    refine s_iload_n (pc := 18) (k0 := 1) (i := 1) rfl 1 rfl (by decide +kernel) ?_
    refine s_cVv (pc := 19) [.int a1] (tX7_comes a0 a1 g2) c4 cw_X7_286 rfl ⟨⟨Nat.le_of_ble_eq_true rfl, Nat.le_of_ble_eq_true rfl⟩, Nat.le_of_ble_eq_true rfl⟩ rfl (by decide +kernel) (fun _ g5 e6 => ?_)
    refine s_aload_n (pc := 22) (k0 := 0) (i := 0) rfl 0 rfl (by decide +kernel) ?_
    refine s_iload_n (pc := 23) (k0 := 2) (i := 2) rfl 2 rfl (by decide +kernel) ?_
    have c7 := kp e6 c4 (by decide)
    refine s_cVv (pc := 24) [.int a2] (tX7_comes a0 a2 g5) c7 cw_X7_286 rfl ⟨⟨Nat.le_of_ble_eq_true rfl, Nat.le_of_ble_eq_true rfl⟩, Nat.le_of_ble_eq_true rfl⟩ rfl (by decide +kernel) (fun _ g8 e9 => ?_)
    refine s_aload_n (pc := 27) (k0 := 0) (i := 0) rfl 0 rfl (by decide +kernel) ?_
    refine s_iload_n (pc := 28) (k0 := 3) (i := 3) rfl 3 rfl (by decide +kernel) ?_
    have c10 := kp e9 c7 (by decide)
    refine s_cVv (pc := 29) [.int a3] (tX7_comes a0 a3 g8) c10 cw_X7_286 rfl ⟨⟨Nat.le_of_ble_eq_true rfl, Nat.le_of_ble_eq_true rfl⟩, Nat.le_of_ble_eq_true rfl⟩ rfl (by decide +kernel) (fun _ g11 e12 => ?_)
    refine s_aload_n (pc := 32) (k0 := 0) (i := 0) rfl 0 rfl (by decide +kernel) ?_
    refine s_iload (pc := 33) (i := 4) 4 rfl (by decide +kernel) ?_
    have c13 := kp e12 c10 (by decide)
    refine s_cVv (pc := 35) [.int a4] (tX7_comes a0 a4 g11) c13 cw_X7_286 rfl ⟨⟨Nat.le_of_ble_eq_true rfl, Nat.le_of_ble_eq_true rfl⟩, Nat.le_of_ble_eq_true rfl⟩ rfl (by decide +kernel) (fun _ g14 e15 => ?_)
    refine s_aload_n (pc := 38) (k0 := 0) (i := 0) rfl 0 rfl (by decide +kernel) ?_
    refine s_iload (pc := 39) (i := 5) 5 rfl (by decide +kernel) ?_
    have c16 := kp e15 c13 (by decide)
    refine s_cVv (pc := 41) [.int a5] (tX7_comes a0 a5 g14) c16 cw_X7_286 rfl ⟨⟨Nat.le_of_ble_eq_true rfl, Nat.le_of_ble_eq_true rfl⟩, Nat.le_of_ble_eq_true rfl⟩ rfl (by decide +kernel) (fun _ g17 e18 => ?_)
    refine s_aload_n (pc := 44) (k0 := 0) (i := 0) rfl 0 rfl (by decide +kernel) ?_
    have c19 := kp e18 c16 (by decide)
    refine s_getI (pc := 45) (k := 36) c19 ft_X7_283 rfl (by decide +kernel) ?_
    exact s_iret (pc := 48) rfl (by decide +kernel)
  · refine s_iconst (pc := 15) (n := -1) (v := (-1 : Int32)) (by decide) (by decide +kernel) ?_
    exact s_iret (pc := 16) rfl (by decide +kernel)
theorem tX7_feed (a0 : Nat) (a1 : Int32) (a2 : Int32) (a3 : Int32) (a4 : Int32) (a5 : Int32) (h : xH) : Ct yX7_feed kX7_feed emI [.ref a0, .int a1, .int a2, .int a3, .int a4, .int a5] h (fX7_feed a0 a1 a2 a3 a4 a5 h) := Ct_of (by decide +kernel) rfl rfl rfl (Nat.le_of_ble_eq_true rfl) rfl (pX7_feed_e a0 a1 a2 a3 a4 a5 h)
def fX7_in   (a0 : Int64) (a2 : Int64) (a4 : Int64) (h : xH) : Option (Int32 × xH) :=
  if (lg_cmp a0 a2) < 0 then (
  some ((0 : Int32), h))
  else (
  if 0 < (lg_cmp a0 a4) then (
  some ((0 : Int32), h))
  else (
  some ((1 : Int32), h)))
theorem pX7_in_e    (a0 : Int64) (a2 : Int64) (a4 : Int64) (h : xH) : S emI kX7_in h 0 [(0, .long a0), (2, .long a2), (4, .long a4)] [] h (fX7_in  a0 a2 a4 h) := by
  unfold fX7_in
  refine s_lload_n (pc := 0) (k0 := 0) (i := 0) rfl 0 rfl (by decide +kernel) ?_
  refine s_lload_n (pc := 1) (k0 := 2) (i := 2) rfl 1 rfl (by decide +kernel) ?_
  refine s_lcmp (pc := 2) (by decide +kernel) ?_
  refine s_if_lt (pc := 3) (off := 14) 17 (by decide +kernel) (by decide) (fun _ => ?_) (fun _ => ?_)
  · refine s_iconst (pc := 17) (n := 0) (v := (0 : Int32)) (by decide) (by decide +kernel) ?_
    exact s_zret (pc := 18) (by decide) rfl (by decide +kernel)
  · refine s_lload_n (pc := 6) (k0 := 0) (i := 0) rfl 0 rfl (by decide +kernel) ?_
    refine s_lload (pc := 7) (i := 4) 2 rfl (by decide +kernel) ?_
    refine s_lcmp (pc := 9) (by decide +kernel) ?_
    refine s_if_gt (pc := 10) (off := 7) 17 (by decide +kernel) (by decide) (fun _ => ?_) (fun _ => ?_)
    · refine s_iconst (pc := 17) (n := 0) (v := (0 : Int32)) (by decide) (by decide +kernel) ?_
      exact s_zret (pc := 18) (by decide) rfl (by decide +kernel)
    · refine s_iconst (pc := 13) (n := 1) (v := (1 : Int32)) (by decide) (by decide +kernel) ?_
      refine s_goto (pc := 14) (off := 4) 18 (by decide +kernel) (by decide) ?_
      exact s_zret (pc := 18) (by decide) rfl (by decide +kernel)
theorem tX7_in (a0 : Int64) (a2 : Int64) (a4 : Int64) (h : xH) : Ct yX7_in kX7_in emI [.long a0, .long a2, .long a4] h (fX7_in a0 a2 a4 h) := Ct_of (by decide +kernel) rfl rfl rfl (Nat.le_of_ble_eq_true rfl) rfl (pX7_in_e a0 a2 a4 h)
def fX7_end_   (a0 : Nat) (a1 : Int32) (h : xH) : Option (Int32 × xH) :=
  if kc h a0 = 7 then
  lt (sI h a0 0 (0 : Int32)) (fun g2 =>
  bd (fX7_in a1.toInt64 (0 : Int64) ((hI g2 a0 36).toInt64) g2) (fun w7 g5 =>
  if w7 = 0 then (
  some ((-1 : Int32), g5))
  else (
  lt (sI g5 a0 36 a1) (fun g9 =>
  some (a1, g9)))))
  else none
theorem pX7_end__e    (a0 : Nat) (a1 : Int32) (h : xH) : S emI kX7_end_ h 0 [(0, .ref a0), (1, .int a1)] [] h (fX7_end_  a0 a1 h) := by
  unfold fX7_end_
  refine s_aload_n (pc := 0) (k0 := 0) (i := 0) rfl 0 rfl (by decide +kernel) ?_
  refine s_iconst (pc := 1) (n := 0) (v := (0 : Int32)) (by decide) (by decide +kernel) ?_
  refine S_gd (fun c1 => ?_)
  refine s_putI (pc := 2) (k := 0) c1 ft_X7_107 (fw_7_0 _ _) rfl rfl (by decide +kernel) ?_
  refine s_nmH (o := h) rfl (fun g2 e3 => ?_)
  refine s_iload_n (pc := 5) (k0 := 1) (i := 1) rfl 1 rfl (by decide +kernel) ?_
  refine s_i2l (pc := 6) (by decide +kernel) ?_
  refine s_lconst (pc := 7) (n := 0) (v := (0 : Int64)) (by decide) (by decide +kernel) ?_
  refine s_aload_n (pc := 8) (k0 := 0) (i := 0) rfl 0 rfl (by decide +kernel) ?_
  have c4 := kp e3 c1 (by decide)
  refine s_getI (pc := 9) (k := 36) c4 ft_X7_283 rfl (by decide +kernel) ?_
  refine s_i2l (pc := 12) (by decide +kernel) ?_
  refine s_cSi (pc := 13) [.long a1.toInt64, .long (0 : Int64), .long ((hI g2 a0 36).toInt64)] (tX7_in a1.toInt64 (0 : Int64) ((hI g2 a0 36).toInt64) g2) cw_X7_114 rfl ⟨⟨Nat.le_of_ble_eq_true rfl, Nat.le_of_ble_eq_true rfl⟩, Nat.le_of_ble_eq_true rfl⟩ rfl (by decide +kernel) (fun w7 g5 e6 => ?_)
  refine s_if_ne (pc := 16) (off := 5) 21 (by decide +kernel) (by decide) (fun _ => ?_) (fun _ => ?_)
  · refine s_iconst (pc := 19) (n := -1) (v := (-1 : Int32)) (by decide) (by decide +kernel) ?_
    exact s_iret (pc := 20) rfl (by decide +kernel)
  · refine s_aload_n (pc := 21) (k0 := 0) (i := 0) rfl 0 rfl (by decide +kernel) ?_
    refine s_iload_n (pc := 22) (k0 := 1) (i := 1) rfl 1 rfl (by decide +kernel) ?_
    have c8 := kp e6 c4 (by decide)
    refine s_putI (pc := 23) (k := 36) c8 ft_X7_283 (fw_7_36 _ _) rfl rfl (by decide +kernel) ?_
    refine s_nmH (o := g5) rfl (fun g9 e10 => ?_)
    refine s_iload_n (pc := 26) (k0 := 1) (i := 1) rfl 1 rfl (by decide +kernel) ?_
    exact s_iret (pc := 27) rfl (by decide +kernel)
theorem tX7_end_ (a0 : Nat) (a1 : Int32) (h : xH) : Ct yX7_end_ kX7_end_ emI [.ref a0, .int a1] h (fX7_end_ a0 a1 h) := Ct_of (by decide +kernel) rfl rfl rfl (Nat.le_of_ble_eq_true rfl) rfl (pX7_end__e a0 a1 h)
def fX7_isStore   (a0 : Int32) (h : xH) : Option (Int32 × xH) :=
  bd (fX7_in a0.toInt64 (0 : Int64) (5 : Int64) h) (fun w3 g1 =>
  if w3 = 0 ∨ w3 = 1 then
  some (w3, g1)
  else none)
theorem pX7_isStore_e    (a0 : Int32) (h : xH) : S emI kX7_isStore h 0 [(0, .int a0)] [] h (fX7_isStore  a0 h) := by
  unfold fX7_isStore
  refine s_iload_n (pc := 0) (k0 := 0) (i := 0) rfl 0 rfl (by decide +kernel) ?_
  refine s_i2l (pc := 1) (by decide +kernel) ?_
  refine s_lconst (pc := 2) (n := 0) (v := (0 : Int64)) (by decide) (by decide +kernel) ?_
  refine s_ldc2 (pc := 3) (v := (5 : Int64)) (index := 152) (gd_of 1070 (by decide +kernel) rfl) (by decide +kernel) ?_
  refine s_cSi (pc := 6) [.long a0.toInt64, .long (0 : Int64), .long (5 : Int64)] (tX7_in a0.toInt64 (0 : Int64) (5 : Int64) h) cw_X7_114 rfl ⟨⟨Nat.le_of_ble_eq_true rfl, Nat.le_of_ble_eq_true rfl⟩, Nat.le_of_ble_eq_true rfl⟩ rfl (by decide +kernel) (fun w3 g1 e2 => ?_)
  refine S_gd (fun c4 => ?_)
  exact s_zret (pc := 9) c4 rfl (by decide +kernel)
theorem tX7_isStore (a0 : Int32) (h : xH) : Ct yX7_isStore kX7_isStore emI [.int a0] h (fX7_isStore a0 h) := Ct_of (by decide +kernel) rfl rfl rfl (Nat.le_of_ble_eq_true rfl) rfl (pX7_isStore_e a0 h)
def fX7_refuse   (a0 : Nat) (a1 : Int32) (h : xH) : Option (Int32 × xH) :=
  if kc h a0 = 7 then
  lt (sI h a0 1 a1) (fun g2 =>
  if kc g2 (hR g2 a0 2) = 8 then
  if ix (-a1) (kl g2 (hR g2 a0 2)) then
  lt (sI g2 (hR g2 a0 2) (-a1).toNatClampNeg ((hI g2 (hR g2 a0 2) (-a1).toNatClampNeg) + (1 : Int32))) (fun g7 =>
  some (a1, g7))
  else none
  else none)
  else none
theorem pX7_refuse_e    (a0 : Nat) (a1 : Int32) (h : xH) : S emI kX7_refuse h 0 [(0, .ref a0), (1, .int a1)] [] h (fX7_refuse  a0 a1 h) := by
  unfold fX7_refuse
  refine s_aload_n (pc := 0) (k0 := 0) (i := 0) rfl 0 rfl (by decide +kernel) ?_
  refine s_iload_n (pc := 1) (k0 := 1) (i := 1) rfl 1 rfl (by decide +kernel) ?_
  refine S_gd (fun c1 => ?_)
  refine s_putI (pc := 2) (k := 1) c1 ft_X7_122 (fw_7_1 _ _) rfl rfl (by decide +kernel) ?_
  refine s_nmH (o := h) rfl (fun g2 e3 => ?_)
  refine s_aload_n (pc := 5) (k0 := 0) (i := 0) rfl 0 rfl (by decide +kernel) ?_
  have c4 := kp e3 c1 (by decide)
  refine s_getR (pc := 6) (k := 2) c4 ft_X7_9 rfl (by decide +kernel) ?_
  refine s_iload_n (pc := 9) (k0 := 1) (i := 1) rfl 1 rfl (by decide +kernel) ?_
  refine s_ineg (pc := 10) (by decide +kernel) ?_
  refine s_dup2_ia (pc := 11) (by decide +kernel) ?_
  refine S_gd (fun c5 => ?_)
  refine S_gd (fun c6 => ?_)
  refine s_iald (pc := 12) c5 c6 (by decide +kernel) ?_
  refine s_iconst (pc := 13) (n := 1) (v := (1 : Int32)) (by decide) (by decide +kernel) ?_
  refine s_iadd (pc := 14) (by decide +kernel) ?_
  refine s_iast (pc := 15) c5 c6 (by decide +kernel) ?_
  refine s_nmH (o := g2) rfl (fun g7 e8 => ?_)
  refine s_iload_n (pc := 16) (k0 := 1) (i := 1) rfl 1 rfl (by decide +kernel) ?_
  exact s_iret (pc := 17) rfl (by decide +kernel)
theorem tX7_refuse (a0 : Nat) (a1 : Int32) (h : xH) : Ct yX7_refuse kX7_refuse emI [.ref a0, .int a1] h (fX7_refuse a0 a1 h) := Ct_of (by decide +kernel) rfl rfl rfl (Nat.le_of_ble_eq_true rfl) rfl (pX7_refuse_e a0 a1 h)
def fX7_sign_b38   (a0 : Nat) (h : xH) : Option (Int32 × xH) :=
  if kc h a0 = 7 then
  if (hI h a0 36) ≤ (hI h a0 38) then (
  some ((0 : Int32), h))
  else (
  if kc h (hR h a0 35) = 11 then
  if ix (hI h a0 38) (kl h (hR h a0 35)) then
  some ((hI h (hR h a0 35) (hI h a0 38).toNatClampNeg), h)
  else none
  else none)
  else none
def fX7_sign_b0 (r0 : Nat → xH → Option (Int32 × xH))  (a0 : Nat) (h : xH) : Option (Int32 × xH) :=
  if kc h a0 = 7 then
  if (hI h a0 36) ≤ (hI h a0 38) then (
  fX7_sign_b38 a0 h)
  else (
  if kc h (hR h a0 35) = 11 then
  if ix (hI h a0 38) (kl h (hR h a0 35)) then
  if (hI h (hR h a0 35) (hI h a0 38).toNatClampNeg) = (32 : Int32) then (
  lt (sI h a0 38 ((hI h a0 38) + (1 : Int32))) (fun g4 =>
  r0 a0 g4))
  else (
  fX7_sign_b38 a0 h)
  else none
  else none)
  else none
def fX7_sign_l0  : Nat → Nat → xH → Option (Int32 × xH)
  | 0 => fun _ _ => none
  | k + 1 => fX7_sign_b0 (fX7_sign_l0  k)
def fX7_sign (a0 : Nat) (h : xH) : Option (Int32 × xH) := fX7_sign_l0 FU a0 h
theorem pX7_sign_b38 {h0 : xH}    (a0 : Nat) (h : xH) : S emI kX7_sign h0 38 [(0, .ref a0)] [] h (fX7_sign_b38  a0 h) := by
  unfold fX7_sign_b38
  refine s_aload_n (pc := 38) (k0 := 0) (i := 0) rfl 0 rfl (by decide +kernel) ?_
  refine S_gd (fun c1 => ?_)
  refine s_getI (pc := 39) (k := 38) c1 ft_X7_289 rfl (by decide +kernel) ?_
  refine s_aload_n (pc := 42) (k0 := 0) (i := 0) rfl 0 rfl (by decide +kernel) ?_
  refine s_getI (pc := 43) (k := 36) c1 ft_X7_283 rfl (by decide +kernel) ?_
  refine s_icmp_ge (pc := 46) (off := 15) 61 (by decide +kernel) (by decide) (fun _ => ?_) (fun _ => ?_)
  · refine s_iconst (pc := 61) (n := 0) (v := (0 : Int32)) (by decide) (by decide +kernel) ?_
    exact s_iret (pc := 62) rfl (by decide +kernel)
  · refine s_aload_n (pc := 49) (k0 := 0) (i := 0) rfl 0 rfl (by decide +kernel) ?_
    refine s_getR (pc := 50) (k := 35) c1 ft_X7_90 rfl (by decide +kernel) ?_
    refine s_aload_n (pc := 53) (k0 := 0) (i := 0) rfl 0 rfl (by decide +kernel) ?_
    refine s_getI (pc := 54) (k := 38) c1 ft_X7_289 rfl (by decide +kernel) ?_
    refine S_gd (fun c2 => ?_)
    refine S_gd (fun c3 => ?_)
    refine s_bald (pc := 57) c2 c3 (by decide +kernel) ?_
    refine s_goto (pc := 58) (off := 4) 62 (by decide +kernel) (by decide) ?_
    exact s_iret (pc := 62) rfl (by decide +kernel)
theorem pX7_sign_b0 {h0 : xH} {r0 : Nat → xH → Option (Int32 × xH)} (hr0 : ∀  (a0 : Nat) (g : xH), S emI kX7_sign h0 0 [(0, .ref a0)] [] g (r0  a0 g))  (a0 : Nat) (h : xH) : S emI kX7_sign h0 0 [(0, .ref a0)] [] h (fX7_sign_b0 r0 a0 h) := by
  unfold fX7_sign_b0
  refine s_aload_n (pc := 0) (k0 := 0) (i := 0) rfl 0 rfl (by decide +kernel) ?_
  refine S_gd (fun c1 => ?_)
  refine s_getI (pc := 1) (k := 38) c1 ft_X7_289 rfl (by decide +kernel) ?_
  refine s_aload_n (pc := 4) (k0 := 0) (i := 0) rfl 0 rfl (by decide +kernel) ?_
  refine s_getI (pc := 5) (k := 36) c1 ft_X7_283 rfl (by decide +kernel) ?_
  refine s_icmp_ge (pc := 8) (off := 30) 38 (by decide +kernel) (by decide) (fun _ => ?_) (fun _ => ?_)
  · exact pX7_sign_b38 a0 h
  · refine s_aload_n (pc := 11) (k0 := 0) (i := 0) rfl 0 rfl (by decide +kernel) ?_
    refine s_getR (pc := 12) (k := 35) c1 ft_X7_90 rfl (by decide +kernel) ?_
    refine s_aload_n (pc := 15) (k0 := 0) (i := 0) rfl 0 rfl (by decide +kernel) ?_
    refine s_getI (pc := 16) (k := 38) c1 ft_X7_289 rfl (by decide +kernel) ?_
    refine S_gd (fun c2 => ?_)
    refine S_gd (fun c3 => ?_)
    refine s_bald (pc := 19) c2 c3 (by decide +kernel) ?_
    refine s_bipush (pc := 20) (n := 32) (v := (32 : Int32)) (by decide) (by decide +kernel) ?_
    refine s_icmp_ne (pc := 22) (off := 16) 38 (by decide +kernel) (by decide) (fun _ => ?_) (fun _ => ?_)
    · refine s_aload_n (pc := 25) (k0 := 0) (i := 0) rfl 0 rfl (by decide +kernel) ?_
      refine s_dup_a (pc := 26) (by decide +kernel) ?_
      refine s_getI (pc := 27) (k := 38) c1 ft_X7_289 rfl (by decide +kernel) ?_
      refine s_iconst (pc := 30) (n := 1) (v := (1 : Int32)) (by decide) (by decide +kernel) ?_
      refine s_iadd (pc := 31) (by decide +kernel) ?_
      refine s_putI (pc := 32) (k := 38) c1 ft_X7_289 (fw_7_38 _ _) rfl rfl (by decide +kernel) ?_
      refine s_nmH (o := h) rfl (fun g4 e5 => ?_)
      refine s_goto (pc := 35) (off := -35) 0 (by decide +kernel) (by decide) ?_
      exact hr0 a0 g4
    · exact pX7_sign_b38 a0 h
theorem pX7_sign_l0 {h0 : xH}   : ∀ (k : Nat)  (a0 : Nat) (h : xH), S emI kX7_sign h0 0 [(0, .ref a0)] [] h (fX7_sign_l0  k  a0 h) := by
  intro k
  induction k with
  | zero => intros; exact S_none
  | succ k ih => intro  a0 h; exact pX7_sign_b0 ih  a0 h
theorem tX7_sign (a0 : Nat) (h : xH) : Ct yX7_sign kX7_sign emI [.ref a0] h (fX7_sign a0 h) := Ct_of (by decide +kernel) rfl rfl rfl (Nat.le_of_ble_eq_true rfl) rfl (S_sub [0] rfl (pX7_sign_l0 FU a0 h))
def fX7_wrong_b16  (s0 : Int32) (s1 : Nat) (a0 : Nat) (h : xH) : Option (Unit × xH) :=
  if kc h s1 = 7 then
  lt (sI h s1 37 s0) (fun g2 =>
  if kc g2 a0 = 7 then
  lt (sI g2 a0 39 (0 : Int32)) (fun g5 =>
  some ((), g5))
  else none)
  else none
def fX7_wrong   (a0 : Nat) (a1 : Int32) (h : xH) : Option (Unit × xH) :=
  if kc h a0 = 7 then
  if (hI h a0 39) = 0 then (
  fX7_wrong_b16 (hI h a0 37) a0 a0 h)
  else (
  fX7_wrong_b16 a1 a0 a0 h)
  else none
theorem pX7_wrong_b16 {h0 : xH}   (s0 : Int32) (s1 : Nat) (a0 : Nat) (h : xH) : S emV kX7_wrong h0 16 [(0, .ref a0)] [.int s0, .ref s1] h (fX7_wrong_b16 s0 s1 a0 h) := by
  unfold fX7_wrong_b16
  refine S_gd (fun c1 => ?_)
  refine s_putI (pc := 16) (k := 37) c1 ft_X7_94 (fw_7_37 _ _) rfl rfl (by decide +kernel) ?_
  refine s_nmH (o := h) rfl (fun g2 e3 => ?_)
  refine s_aload_n (pc := 19) (k0 := 0) (i := 0) rfl 0 rfl (by decide +kernel) ?_
  refine s_iconst (pc := 20) (n := 0) (v := (0 : Int32)) (by decide) (by decide +kernel) ?_
  refine S_gd (fun c4 => ?_)
  refine s_putZ (pc := 21) (k := 39) (by decide) c4 ft_X7_296 (fw_7_39 _ _) rfl rfl (by decide +kernel) ?_
  refine s_nmH (o := g2) rfl (fun g5 e6 => ?_)
  exact s_vret (pc := 24) rfl (by decide +kernel)
theorem pX7_wrong_e    (a0 : Nat) (a1 : Int32) (h : xH) : S emV kX7_wrong h 0 [(0, .ref a0), (1, .int a1)] [] h (fX7_wrong  a0 a1 h) := by
  unfold fX7_wrong
  refine s_aload_n (pc := 0) (k0 := 0) (i := 0) rfl 0 rfl (by decide +kernel) ?_
  refine s_aload_n (pc := 1) (k0 := 0) (i := 0) rfl 0 rfl (by decide +kernel) ?_
  refine S_gd (fun c1 => ?_)
  refine s_getI (pc := 2) (k := 39) c1 ft_X7_296 rfl (by decide +kernel) ?_
  refine s_if_eq (pc := 5) (off := 7) 12 (by decide +kernel) (by decide) (fun _ => ?_) (fun _ => ?_)
  · refine s_aload_n (pc := 12) (k0 := 0) (i := 0) rfl 0 rfl (by decide +kernel) ?_
    refine s_getI (pc := 13) (k := 37) c1 ft_X7_94 rfl (by decide +kernel) ?_
    refine S_sub [0] rfl ?_
    exact pX7_wrong_b16 (hI h a0 37) a0 a0 h
  · refine s_iload_n (pc := 8) (k0 := 1) (i := 1) rfl 1 rfl (by decide +kernel) ?_
    refine s_goto (pc := 9) (off := 7) 16 (by decide +kernel) (by decide) ?_
    refine S_sub [0] rfl ?_
    exact pX7_wrong_b16 a1 a0 a0 h
theorem tX7_wrong (a0 : Nat) (a1 : Int32) (h : xH) : Ct yX7_wrong kX7_wrong emV [.ref a0, .int a1] h (fX7_wrong a0 a1 h) := Ct_of (by decide +kernel) rfl rfl rfl (Nat.le_of_ble_eq_true rfl) rfl (pX7_wrong_e a0 a1 h)
def fX7_isDigit   (a0 : Int32) (h : xH) : Option (Int32 × xH) :=
  bd (fX7_in a0.toInt64 (48 : Int64) (57 : Int64) h) (fun w3 g1 =>
  if w3 = 0 ∨ w3 = 1 then
  some (w3, g1)
  else none)
theorem pX7_isDigit_e    (a0 : Int32) (h : xH) : S emI kX7_isDigit h 0 [(0, .int a0)] [] h (fX7_isDigit  a0 h) := by
  unfold fX7_isDigit
  refine s_iload_n (pc := 0) (k0 := 0) (i := 0) rfl 0 rfl (by decide +kernel) ?_
  refine s_i2l (pc := 1) (by decide +kernel) ?_
  refine s_ldc2 (pc := 2) (v := (48 : Int64)) (index := 292) (gd_of 1282 (by decide +kernel) rfl) (by decide +kernel) ?_
  refine s_ldc2 (pc := 5) (v := (57 : Int64)) (index := 294) (gd_of 1283 (by decide +kernel) rfl) (by decide +kernel) ?_
  refine s_cSi (pc := 8) [.long a0.toInt64, .long (48 : Int64), .long (57 : Int64)] (tX7_in a0.toInt64 (48 : Int64) (57 : Int64) h) cw_X7_114 rfl ⟨⟨Nat.le_of_ble_eq_true rfl, Nat.le_of_ble_eq_true rfl⟩, Nat.le_of_ble_eq_true rfl⟩ rfl (by decide +kernel) (fun w3 g1 e2 => ?_)
  refine S_gd (fun c4 => ?_)
  exact s_zret (pc := 11) c4 rfl (by decide +kernel)
theorem tX7_isDigit (a0 : Int32) (h : xH) : Ct yX7_isDigit kX7_isDigit emI [.int a0] h (fX7_isDigit a0 h) := Ct_of (by decide +kernel) rfl rfl rfl (Nat.le_of_ble_eq_true rfl) rfl (pX7_isDigit_e a0 h)
def fX7_number_b17   (a0 : Nat) (h : xH) : Option (Int32 × xH) :=
  if kc h a0 = 7 then
  bd (fX7_wrong a0 (hI h a0 38) h) (fun _ g2 =>
  some ((1 : Int32), g2))
  else none
def fX7_number_b107   (a0 : Nat) (a1 : Int32) (a2 : Int32) (a3 : Int32) (a4 : Int32) (h : xH) : Option (Int32 × xH) :=
  bd (fX7_in a4.toInt64 a1.toInt64 a2.toInt64 h) (fun w3 g1 =>
  if w3 = 0 then (
  if kc g1 a0 = 7 then
  bd (fX7_wrong a0 a3 g1) (fun _ g5 =>
  some ((1 : Int32), g5))
  else none)
  else (
  some (a4, g1)))
def fX7_number_b92 (r35 : Nat → Int32 → Int32 → Int32 → Int32 → xH → Option (Int32 × xH)) (s0 : Int32) (a0 : Nat) (a1 : Int32) (a2 : Int32) (a3 : Int32) (h : xH) : Option (Int32 × xH) :=
  if kc h a0 = 7 then
  lt (sI h a0 38 ((hI h a0 38) + (1 : Int32))) (fun g2 =>
  r35 a0 a1 a2 a3 s0 g2)
  else none
def fX7_number_b35 (r35 : Nat → Int32 → Int32 → Int32 → Int32 → xH → Option (Int32 × xH))  (a0 : Nat) (a1 : Int32) (a2 : Int32) (a3 : Int32) (a4 : Int32) (h : xH) : Option (Int32 × xH) :=
  if kc h a0 = 7 then
  if (hI h a0 36) ≤ (hI h a0 38) then (
  fX7_number_b107 a0 a1 a2 a3 a4 h)
  else (
  if kc h (hR h a0 35) = 11 then
  if ix (hI h a0 38) (kl h (hR h a0 35)) then
  bd (fX7_isDigit (hI h (hR h a0 35) (hI h a0 38).toNatClampNeg) h) (fun w6 g4 =>
  if w6 = 0 then (
  fX7_number_b107 a0 a1 a2 a3 a4 g4)
  else (
  if a4 ≤ (99999 : Int32) then (
  if kc g4 (hR g4 a0 35) = 11 then
  if ix (hI g4 a0 38) (kl g4 (hR g4 a0 35)) then
  fX7_number_b92 r35 ((((10 : Int32) * a4) + (hI g4 (hR g4 a0 35) (hI g4 a0 38).toNatClampNeg)) - (48 : Int32)) a0 a1 a2 a3 g4
  else none
  else none)
  else (
  fX7_number_b92 r35 a4 a0 a1 a2 a3 g4)))
  else none
  else none)
  else none
def fX7_number_l35  : Nat → Nat → Int32 → Int32 → Int32 → Int32 → xH → Option (Int32 × xH)
  | 0 => fun _ _ _ _ _ _ => none
  | k + 1 => fX7_number_b35 (fX7_number_l35  k)
def fX7_number   (a0 : Nat) (a1 : Int32) (a2 : Int32) (h : xH) : Option (Int32 × xH) :=
  if kc h a0 = 7 then
  if (hI h a0 39) = 0 then (
  fX7_number_b17 a0 h)
  else (
  bd (fX7_sign a0 h) (fun w4 g2 =>
  bd (fX7_isDigit w4 g2) (fun w7 g5 =>
  if w7 = 0 then (
  fX7_number_b17 a0 g5)
  else (
  lt (hI g5 a0 38) (fun v9 =>
  lt (0 : Int32) (fun v10 =>
  fX7_number_l35 FU a0 a1 a2 v9 v10 g5))))))
  else none
theorem pX7_number_b17 {h0 : xH}    (a0 : Nat) (h : xH) : S emI kX7_number h0 17 [(0, .ref a0)] [] h (fX7_number_b17  a0 h) := by
  unfold fX7_number_b17
  refine s_aload_n (pc := 17) (k0 := 0) (i := 0) rfl 0 rfl (by decide +kernel) ?_
  refine s_aload_n (pc := 18) (k0 := 0) (i := 0) rfl 0 rfl (by decide +kernel) ?_
  refine S_gd (fun c1 => ?_)
  refine s_getI (pc := 19) (k := 38) c1 ft_X7_289 rfl (by decide +kernel) ?_
  refine s_cVv (pc := 22) [.int (hI h a0 38)] (tX7_wrong a0 (hI h a0 38) h) c1 cw_X7_306 rfl ⟨⟨Nat.le_of_ble_eq_true rfl, Nat.le_of_ble_eq_true rfl⟩, Nat.le_of_ble_eq_true rfl⟩ rfl (by decide +kernel) (fun _ g2 e3 => ?_)
  refine s_iconst (pc := 25) (n := 1) (v := (1 : Int32)) (by decide) (by decide +kernel) ?_
  exact s_iret (pc := 26) rfl (by decide +kernel)
theorem pX7_number_b107 {h0 : xH}    (a0 : Nat) (a1 : Int32) (a2 : Int32) (a3 : Int32) (a4 : Int32) (h : xH) : S emI kX7_number h0 107 [(0, .ref a0), (1, .int a1), (2, .int a2), (3, .int a3), (4, .int a4)] [] h (fX7_number_b107  a0 a1 a2 a3 a4 h) := by
  unfold fX7_number_b107
  refine s_iload (pc := 107) (i := 4) 4 rfl (by decide +kernel) ?_
  refine s_i2l (pc := 109) (by decide +kernel) ?_
  refine s_iload_n (pc := 110) (k0 := 1) (i := 1) rfl 1 rfl (by decide +kernel) ?_
  refine s_i2l (pc := 111) (by decide +kernel) ?_
  refine s_iload_n (pc := 112) (k0 := 2) (i := 2) rfl 2 rfl (by decide +kernel) ?_
  refine s_i2l (pc := 113) (by decide +kernel) ?_
  refine s_cSi (pc := 114) [.long a4.toInt64, .long a1.toInt64, .long a2.toInt64] (tX7_in a4.toInt64 a1.toInt64 a2.toInt64 h) cw_X7_114 rfl ⟨⟨Nat.le_of_ble_eq_true rfl, Nat.le_of_ble_eq_true rfl⟩, Nat.le_of_ble_eq_true rfl⟩ rfl (by decide +kernel) (fun w3 g1 e2 => ?_)
  refine s_if_ne (pc := 117) (off := 10) 127 (by decide +kernel) (by decide) (fun _ => ?_) (fun _ => ?_)
  · refine s_aload_n (pc := 120) (k0 := 0) (i := 0) rfl 0 rfl (by decide +kernel) ?_
    refine s_iload_n (pc := 121) (k0 := 3) (i := 3) rfl 3 rfl (by decide +kernel) ?_
    refine S_gd (fun c4 => ?_)
    refine s_cVv (pc := 122) [.int a3] (tX7_wrong a0 a3 g1) c4 cw_X7_306 rfl ⟨⟨Nat.le_of_ble_eq_true rfl, Nat.le_of_ble_eq_true rfl⟩, Nat.le_of_ble_eq_true rfl⟩ rfl (by decide +kernel) (fun _ g5 e6 => ?_)
    refine s_iconst (pc := 125) (n := 1) (v := (1 : Int32)) (by decide) (by decide +kernel) ?_
    exact s_iret (pc := 126) rfl (by decide +kernel)
  · refine s_iload (pc := 127) (i := 4) 4 rfl (by decide +kernel) ?_
    exact s_iret (pc := 129) rfl (by decide +kernel)
theorem pX7_number_b92 {h0 : xH} {r35 : Nat → Int32 → Int32 → Int32 → Int32 → xH → Option (Int32 × xH)} (hr35 : ∀  (a0 : Nat) (a1 : Int32) (a2 : Int32) (a3 : Int32) (a4 : Int32) (g : xH), S emI kX7_number h0 35 [(0, .ref a0), (1, .int a1), (2, .int a2), (3, .int a3), (4, .int a4)] [] g (r35  a0 a1 a2 a3 a4 g)) (s0 : Int32) (a0 : Nat) (a1 : Int32) (a2 : Int32) (a3 : Int32) (h : xH) : S emI kX7_number h0 92 [(0, .ref a0), (1, .int a1), (2, .int a2), (3, .int a3)] [.int s0] h (fX7_number_b92 r35 s0 a0 a1 a2 a3 h) := by
  unfold fX7_number_b92
  refine s_istore (pc := 92) (L' := [(4, .int s0), (0, .ref a0), (1, .int a1), (2, .int a2), (3, .int a3)]) (i := 4) (by decide) rfl (by decide +kernel) ?_
  refine s_aload_n (pc := 94) (k0 := 0) (i := 0) rfl 1 rfl (by decide +kernel) ?_
  refine s_dup_a (pc := 95) (by decide +kernel) ?_
  refine S_gd (fun c1 => ?_)
  refine s_getI (pc := 96) (k := 38) c1 ft_X7_289 rfl (by decide +kernel) ?_
  refine s_iconst (pc := 99) (n := 1) (v := (1 : Int32)) (by decide) (by decide +kernel) ?_
  refine s_iadd (pc := 100) (by decide +kernel) ?_
  refine s_putI (pc := 101) (k := 38) c1 ft_X7_289 (fw_7_38 _ _) rfl rfl (by decide +kernel) ?_
  refine s_nmH (o := h) rfl (fun g2 e3 => ?_)
  refine s_goto (pc := 104) (off := -69) 35 (by decide +kernel) (by decide) ?_
  refine S_sub [1, 2, 3, 4, 0] rfl ?_
  exact hr35 a0 a1 a2 a3 s0 g2
theorem pX7_number_b35 {h0 : xH} {r35 : Nat → Int32 → Int32 → Int32 → Int32 → xH → Option (Int32 × xH)} (hr35 : ∀  (a0 : Nat) (a1 : Int32) (a2 : Int32) (a3 : Int32) (a4 : Int32) (g : xH), S emI kX7_number h0 35 [(0, .ref a0), (1, .int a1), (2, .int a2), (3, .int a3), (4, .int a4)] [] g (r35  a0 a1 a2 a3 a4 g))  (a0 : Nat) (a1 : Int32) (a2 : Int32) (a3 : Int32) (a4 : Int32) (h : xH) : S emI kX7_number h0 35 [(0, .ref a0), (1, .int a1), (2, .int a2), (3, .int a3), (4, .int a4)] [] h (fX7_number_b35 r35 a0 a1 a2 a3 a4 h) := by
  unfold fX7_number_b35
  refine s_aload_n (pc := 35) (k0 := 0) (i := 0) rfl 0 rfl (by decide +kernel) ?_
  refine S_gd (fun c1 => ?_)
  refine s_getI (pc := 36) (k := 38) c1 ft_X7_289 rfl (by decide +kernel) ?_
  refine s_aload_n (pc := 39) (k0 := 0) (i := 0) rfl 0 rfl (by decide +kernel) ?_
  refine s_getI (pc := 40) (k := 36) c1 ft_X7_283 rfl (by decide +kernel) ?_
  refine s_icmp_ge (pc := 43) (off := 64) 107 (by decide +kernel) (by decide) (fun _ => ?_) (fun _ => ?_)
  · exact pX7_number_b107 a0 a1 a2 a3 a4 h
  · refine s_aload_n (pc := 46) (k0 := 0) (i := 0) rfl 0 rfl (by decide +kernel) ?_
    refine s_getR (pc := 47) (k := 35) c1 ft_X7_90 rfl (by decide +kernel) ?_
    refine s_aload_n (pc := 50) (k0 := 0) (i := 0) rfl 0 rfl (by decide +kernel) ?_
    refine s_getI (pc := 51) (k := 38) c1 ft_X7_289 rfl (by decide +kernel) ?_
    refine S_gd (fun c2 => ?_)
    refine S_gd (fun c3 => ?_)
    refine s_bald (pc := 54) c2 c3 (by decide +kernel) ?_
    refine s_cSi (pc := 55) [.int (hI h (hR h a0 35) (hI h a0 38).toNatClampNeg)] (tX7_isDigit (hI h (hR h a0 35) (hI h a0 38).toNatClampNeg) h) cw_X7_303 rfl ⟨⟨Nat.le_of_ble_eq_true rfl, Nat.le_of_ble_eq_true rfl⟩, Nat.le_of_ble_eq_true rfl⟩ rfl (by decide +kernel) (fun w6 g4 e5 => ?_)
    refine s_if_eq (pc := 58) (off := 49) 107 (by decide +kernel) (by decide) (fun _ => ?_) (fun _ => ?_)
    · exact pX7_number_b107 a0 a1 a2 a3 a4 g4
    · refine s_iload (pc := 61) (i := 4) 4 rfl (by decide +kernel) ?_
      refine s_ldcw (pc := 63) (v := (99999 : Int32)) (index := 309) (gd_of 1284 (by decide +kernel) rfl) (by decide +kernel) ?_
      refine s_icmp_le (pc := 66) (off := 8) 74 (by decide +kernel) (by decide) (fun _ => ?_) (fun _ => ?_)
      · refine s_bipush (pc := 74) (n := 10) (v := (10 : Int32)) (by decide) (by decide +kernel) ?_
        refine s_iload (pc := 76) (i := 4) 4 rfl (by decide +kernel) ?_
        refine s_imul (pc := 78) (by decide +kernel) ?_
        refine s_aload_n (pc := 79) (k0 := 0) (i := 0) rfl 0 rfl (by decide +kernel) ?_
        have c7 := kp e5 c1 (by decide)
        refine s_getR (pc := 80) (k := 35) c7 ft_X7_90 rfl (by decide +kernel) ?_
        refine s_aload_n (pc := 83) (k0 := 0) (i := 0) rfl 0 rfl (by decide +kernel) ?_
        refine s_getI (pc := 84) (k := 38) c7 ft_X7_289 rfl (by decide +kernel) ?_
        refine S_gd (fun c8 => ?_)
        refine S_gd (fun c9 => ?_)
        refine s_bald (pc := 87) c8 c9 (by decide +kernel) ?_
        refine s_iadd (pc := 88) (by decide +kernel) ?_
        refine s_bipush (pc := 89) (n := 48) (v := (48 : Int32)) (by decide) (by decide +kernel) ?_
        refine s_isub (pc := 91) (by decide +kernel) ?_
        refine S_sub [0, 1, 2, 3] rfl ?_
        exact pX7_number_b92 hr35 ((((10 : Int32) * a4) + (hI g4 (hR g4 a0 35) (hI g4 a0 38).toNatClampNeg)) - (48 : Int32)) a0 a1 a2 a3 g4
      · refine s_iload (pc := 69) (i := 4) 4 rfl (by decide +kernel) ?_
        refine s_goto (pc := 71) (off := 21) 92 (by decide +kernel) (by decide) ?_
        refine S_sub [0, 1, 2, 3] rfl ?_
        exact pX7_number_b92 hr35 a4 a0 a1 a2 a3 g4
theorem pX7_number_l35 {h0 : xH}   : ∀ (k : Nat)  (a0 : Nat) (a1 : Int32) (a2 : Int32) (a3 : Int32) (a4 : Int32) (h : xH), S emI kX7_number h0 35 [(0, .ref a0), (1, .int a1), (2, .int a2), (3, .int a3), (4, .int a4)] [] h (fX7_number_l35  k  a0 a1 a2 a3 a4 h) := by
  intro k
  induction k with
  | zero => intros; exact S_none
  | succ k ih => intro  a0 a1 a2 a3 a4 h; exact pX7_number_b35 ih  a0 a1 a2 a3 a4 h
theorem pX7_number_e    (a0 : Nat) (a1 : Int32) (a2 : Int32) (h : xH) : S emI kX7_number h 0 [(0, .ref a0), (1, .int a1), (2, .int a2)] [] h (fX7_number  a0 a1 a2 h) := by
  unfold fX7_number
  refine s_aload_n (pc := 0) (k0 := 0) (i := 0) rfl 0 rfl (by decide +kernel) ?_
  refine S_gd (fun c1 => ?_)
  refine s_getI (pc := 1) (k := 39) c1 ft_X7_296 rfl (by decide +kernel) ?_
  refine s_if_eq (pc := 4) (off := 13) 17 (by decide +kernel) (by decide) (fun _ => ?_) (fun _ => ?_)
  · refine S_sub [0] rfl ?_
    exact pX7_number_b17 a0 h
  · refine s_aload_n (pc := 7) (k0 := 0) (i := 0) rfl 0 rfl (by decide +kernel) ?_
    refine s_cVi (pc := 8) [] (tX7_sign a0 h) c1 cw_X7_300 rfl ⟨⟨Nat.le_of_ble_eq_true rfl, Nat.le_of_ble_eq_true rfl⟩, Nat.le_of_ble_eq_true rfl⟩ rfl (by decide +kernel) (fun w4 g2 e3 => ?_)
    refine s_cSi (pc := 11) [.int w4] (tX7_isDigit w4 g2) cw_X7_303 rfl ⟨⟨Nat.le_of_ble_eq_true rfl, Nat.le_of_ble_eq_true rfl⟩, Nat.le_of_ble_eq_true rfl⟩ rfl (by decide +kernel) (fun w7 g5 e6 => ?_)
    refine s_if_ne (pc := 14) (off := 13) 27 (by decide +kernel) (by decide) (fun _ => ?_) (fun _ => ?_)
    · refine S_sub [0] rfl ?_
      exact pX7_number_b17 a0 g5
    · refine s_aload_n (pc := 27) (k0 := 0) (i := 0) rfl 0 rfl (by decide +kernel) ?_
      have c8 := kp (Le.tr e3 e6) c1 (by decide)
      refine s_getI (pc := 28) (k := 38) c8 ft_X7_289 rfl (by decide +kernel) ?_
      refine s_nmI (fun v9 => ?_)
      refine s_istore_n (pc := 31) (L' := [(3, .int v9), (0, .ref a0), (1, .int a1), (2, .int a2)]) (k0 := 3) (i := 3) rfl (by decide) rfl (by decide +kernel) ?_
      refine s_iconst (pc := 32) (n := 0) (v := (0 : Int32)) (by decide) (by decide +kernel) ?_
      refine s_nmI (fun v10 => ?_)
      refine s_istore (pc := 33) (L' := [(4, .int v10), (3, .int v9), (0, .ref a0), (1, .int a1), (2, .int a2)]) (i := 4) (by decide) rfl (by decide +kernel) ?_
      refine S_sub [2, 3, 4, 1, 0] rfl ?_
      exact pX7_number_l35 FU a0 a1 a2 v9 v10 g5
theorem tX7_number (a0 : Nat) (a1 : Int32) (a2 : Int32) (h : xH) : Ct yX7_number kX7_number emI [.ref a0, .int a1, .int a2] h (fX7_number a0 a1 a2 h) := Ct_of (by decide +kernel) rfl rfl rfl (Nat.le_of_ble_eq_true rfl) rfl (pX7_number_e a0 a1 a2 h)
def fX7_fraction_b120   (a1 : Int32) (a3 : Int32) (a4 : Int32) (h : xH) : Option (Int32 × xH) :=
  if a1 = 0 then (
  if ¬ a3 = 0 then
  some ((a4 / a3), h)
  else none)
  else (
  if ¬ a3 = 0 then
  some ((-(a4 / a3)), h)
  else none)
def fX7_fraction_b112   (a0 : Nat) (a1 : Int32) (a3 : Int32) (a4 : Int32) (h : xH) : Option (Int32 × xH) :=
  if kc h a0 = 7 then
  bd (fX7_wrong a0 (hI h a0 40) h) (fun _ g2 =>
  fX7_fraction_b120 a1 a3 a4 g2)
  else none
def fX7_fraction_b82   (a0 : Nat) (a1 : Int32) (a2 : Int32) (a3 : Int32) (h : xH) : Option (Int32 × xH) :=
  lt ((60 : Int32) * a2) (fun v1 =>
  if kc h a0 = 7 then
  if (hI h a0 39) = 0 then (
  fX7_fraction_b120 a1 a3 v1 h)
  else (
  if ¬ a3 = 0 then
  if (v1 - v1 / a3 * a3) = 0 then (
  if ¬ a3 = 0 then
  if (v1 / a3) ≤ (5940 : Int32) then (
  fX7_fraction_b120 a1 a3 v1 h)
  else (
  fX7_fraction_b112 a0 a1 a3 v1 h)
  else none)
  else (
  fX7_fraction_b112 a0 a1 a3 v1 h)
  else none)
  else none)
def fX7_fraction_b37   (a0 : Nat) (a1 : Int32) (h : xH) : Option (Int32 × xH) :=
  if kc h a0 = 7 then
  bd (fX7_number a0 (0 : Int32) (9999 : Int32) h) (fun w4 g2 =>
  lt (1 : Int32) (fun v5 =>
  if (hI g2 a0 39) = 0 then (
  fX7_fraction_b82 a0 a1 w4 v5 g2)
  else (
  bd (fX7_sign a0 g2) (fun w9 g7 =>
  if w9 = (47 : Int32) then (
  lt (sI g7 a0 38 ((hI g7 a0 38) + (1 : Int32))) (fun g11 =>
  bd (fX7_number a0 (1 : Int32) (60 : Int32) g11) (fun w16 g14 =>
  fX7_fraction_b82 a0 a1 w4 w16 g14)))
  else (
  fX7_fraction_b82 a0 a1 w4 v5 g7)))))
  else none
def fX7_fraction_b14  (s0 : Int32) (a0 : Nat) (h : xH) : Option (Int32 × xH) :=
  if kc h a0 = 7 then
  lt (sI h a0 40 (hI h a0 38)) (fun g2 =>
  if s0 = 0 then (
  fX7_fraction_b37 a0 s0 g2)
  else (
  lt (sI g2 a0 38 ((hI g2 a0 38) + (1 : Int32))) (fun g5 =>
  fX7_fraction_b37 a0 s0 g5)))
  else none
def fX7_fraction   (a0 : Nat) (h : xH) : Option (Int32 × xH) :=
  if kc h a0 = 7 then
  bd (fX7_sign a0 h) (fun w4 g2 =>
  if w4 = (45 : Int32) then (
  fX7_fraction_b14 (1 : Int32) a0 g2)
  else (
  fX7_fraction_b14 (0 : Int32) a0 g2))
  else none
theorem pX7_fraction_b120 {h0 : xH}    (a1 : Int32) (a3 : Int32) (a4 : Int32) (h : xH) : S emI kX7_fraction h0 120 [(1, .int a1), (3, .int a3), (4, .int a4)] [] h (fX7_fraction_b120  a1 a3 a4 h) := by
  unfold fX7_fraction_b120
  refine s_iload_n (pc := 120) (k0 := 1) (i := 1) rfl 0 rfl (by decide +kernel) ?_
  refine s_if_eq (pc := 121) (off := 11) 132 (by decide +kernel) (by decide) (fun _ => ?_) (fun _ => ?_)
  · refine s_iload (pc := 132) (i := 4) 2 rfl (by decide +kernel) ?_
    refine s_iload_n (pc := 134) (k0 := 3) (i := 3) rfl 1 rfl (by decide +kernel) ?_
    refine s_idiv (pc := 135) (by decide +kernel) ?_
    exact s_iret (pc := 136) rfl (by decide +kernel)
  · refine s_iload (pc := 124) (i := 4) 2 rfl (by decide +kernel) ?_
    refine s_iload_n (pc := 126) (k0 := 3) (i := 3) rfl 1 rfl (by decide +kernel) ?_
    refine s_idiv (pc := 127) (by decide +kernel) ?_
    refine s_ineg (pc := 128) (by decide +kernel) ?_
    refine s_goto (pc := 129) (off := 7) 136 (by decide +kernel) (by decide) ?_
    exact s_iret (pc := 136) rfl (by decide +kernel)
theorem pX7_fraction_b112 {h0 : xH}    (a0 : Nat) (a1 : Int32) (a3 : Int32) (a4 : Int32) (h : xH) : S emI kX7_fraction h0 112 [(0, .ref a0), (1, .int a1), (3, .int a3), (4, .int a4)] [] h (fX7_fraction_b112  a0 a1 a3 a4 h) := by
  unfold fX7_fraction_b112
  refine s_aload_n (pc := 112) (k0 := 0) (i := 0) rfl 0 rfl (by decide +kernel) ?_
  refine s_aload_n (pc := 113) (k0 := 0) (i := 0) rfl 0 rfl (by decide +kernel) ?_
  refine S_gd (fun c1 => ?_)
  refine s_getI (pc := 114) (k := 40) c1 ft_X7_310 rfl (by decide +kernel) ?_
  refine s_cVv (pc := 117) [.int (hI h a0 40)] (tX7_wrong a0 (hI h a0 40) h) c1 cw_X7_306 rfl ⟨⟨Nat.le_of_ble_eq_true rfl, Nat.le_of_ble_eq_true rfl⟩, Nat.le_of_ble_eq_true rfl⟩ rfl (by decide +kernel) (fun _ g2 e3 => ?_)
  refine S_sub [1, 2, 3] rfl ?_
  exact pX7_fraction_b120 a1 a3 a4 g2
theorem pX7_fraction_b82 {h0 : xH}    (a0 : Nat) (a1 : Int32) (a2 : Int32) (a3 : Int32) (h : xH) : S emI kX7_fraction h0 82 [(0, .ref a0), (1, .int a1), (2, .int a2), (3, .int a3)] [] h (fX7_fraction_b82  a0 a1 a2 a3 h) := by
  unfold fX7_fraction_b82
  refine s_bipush (pc := 82) (n := 60) (v := (60 : Int32)) (by decide) (by decide +kernel) ?_
  refine s_iload_n (pc := 84) (k0 := 2) (i := 2) rfl 2 rfl (by decide +kernel) ?_
  refine s_imul (pc := 85) (by decide +kernel) ?_
  refine s_nmI (fun v1 => ?_)
  refine s_istore (pc := 86) (L' := [(4, .int v1), (0, .ref a0), (1, .int a1), (2, .int a2), (3, .int a3)]) (i := 4) (by decide) rfl (by decide +kernel) ?_
  refine s_aload_n (pc := 88) (k0 := 0) (i := 0) rfl 1 rfl (by decide +kernel) ?_
  refine S_gd (fun c2 => ?_)
  refine s_getI (pc := 89) (k := 39) c2 ft_X7_296 rfl (by decide +kernel) ?_
  refine s_if_eq (pc := 92) (off := 28) 120 (by decide +kernel) (by decide) (fun _ => ?_) (fun _ => ?_)
  · refine S_sub [2, 4, 0] rfl ?_
    exact pX7_fraction_b120 a1 a3 v1 h
  · refine s_iload (pc := 95) (i := 4) 0 rfl (by decide +kernel) ?_
    refine s_iload_n (pc := 97) (k0 := 3) (i := 3) rfl 4 rfl (by decide +kernel) ?_
    refine s_irem (pc := 98) (by decide +kernel) ?_
    refine s_if_ne (pc := 99) (off := 13) 112 (by decide +kernel) (by decide) (fun _ => ?_) (fun _ => ?_)
    · refine s_iload (pc := 102) (i := 4) 0 rfl (by decide +kernel) ?_
      refine s_iload_n (pc := 104) (k0 := 3) (i := 3) rfl 4 rfl (by decide +kernel) ?_
      refine s_idiv (pc := 105) (by decide +kernel) ?_
      refine s_sipush (pc := 106) (n := 5940) (v := (5940 : Int32)) (by decide) (by decide +kernel) ?_
      refine s_icmp_le (pc := 109) (off := 11) 120 (by decide +kernel) (by decide) (fun _ => ?_) (fun _ => ?_)
      · refine S_sub [2, 4, 0] rfl ?_
        exact pX7_fraction_b120 a1 a3 v1 h
      · refine S_sub [1, 2, 4, 0] rfl ?_
        exact pX7_fraction_b112 a0 a1 a3 v1 h
    · refine S_sub [1, 2, 4, 0] rfl ?_
      exact pX7_fraction_b112 a0 a1 a3 v1 h
theorem pX7_fraction_b37 {h0 : xH}    (a0 : Nat) (a1 : Int32) (h : xH) : S emI kX7_fraction h0 37 [(0, .ref a0), (1, .int a1)] [] h (fX7_fraction_b37  a0 a1 h) := by
  unfold fX7_fraction_b37
  refine s_aload_n (pc := 37) (k0 := 0) (i := 0) rfl 0 rfl (by decide +kernel) ?_
  refine s_iconst (pc := 38) (n := 0) (v := (0 : Int32)) (by decide) (by decide +kernel) ?_
  refine s_sipush (pc := 39) (n := 9999) (v := (9999 : Int32)) (by decide) (by decide +kernel) ?_
  refine S_gd (fun c1 => ?_)
  refine s_cVi (pc := 42) [.int (0 : Int32), .int (9999 : Int32)] (tX7_number a0 (0 : Int32) (9999 : Int32) h) c1 cw_X7_313 rfl ⟨⟨Nat.le_of_ble_eq_true rfl, Nat.le_of_ble_eq_true rfl⟩, Nat.le_of_ble_eq_true rfl⟩ rfl (by decide +kernel) (fun w4 g2 e3 => ?_)
  refine s_istore_n (pc := 45) (L' := [(2, .int w4), (0, .ref a0), (1, .int a1)]) (k0 := 2) (i := 2) rfl (by decide) rfl (by decide +kernel) ?_
  refine s_iconst (pc := 46) (n := 1) (v := (1 : Int32)) (by decide) (by decide +kernel) ?_
  refine s_nmI (fun v5 => ?_)
  refine s_istore_n (pc := 47) (L' := [(3, .int v5), (2, .int w4), (0, .ref a0), (1, .int a1)]) (k0 := 3) (i := 3) rfl (by decide) rfl (by decide +kernel) ?_
  refine s_aload_n (pc := 48) (k0 := 0) (i := 0) rfl 2 rfl (by decide +kernel) ?_
  have c6 := kp e3 c1 (by decide)
  refine s_getI (pc := 49) (k := 39) c6 ft_X7_296 rfl (by decide +kernel) ?_
  refine s_if_eq (pc := 52) (off := 30) 82 (by decide +kernel) (by decide) (fun _ => ?_) (fun _ => ?_)
  · refine S_sub [2, 3, 1, 0] rfl ?_
    exact pX7_fraction_b82 a0 a1 w4 v5 g2
  · refine s_aload_n (pc := 55) (k0 := 0) (i := 0) rfl 2 rfl (by decide +kernel) ?_
    refine s_cVi (pc := 56) [] (tX7_sign a0 g2) c6 cw_X7_300 rfl ⟨⟨Nat.le_of_ble_eq_true rfl, Nat.le_of_ble_eq_true rfl⟩, Nat.le_of_ble_eq_true rfl⟩ rfl (by decide +kernel) (fun w9 g7 e8 => ?_)
    refine s_bipush (pc := 59) (n := 47) (v := (47 : Int32)) (by decide) (by decide +kernel) ?_
    refine s_icmp_ne (pc := 61) (off := 21) 82 (by decide +kernel) (by decide) (fun _ => ?_) (fun _ => ?_)
    · refine s_aload_n (pc := 64) (k0 := 0) (i := 0) rfl 2 rfl (by decide +kernel) ?_
      refine s_dup_a (pc := 65) (by decide +kernel) ?_
      have c10 := kp e8 c6 (by decide)
      refine s_getI (pc := 66) (k := 38) c10 ft_X7_289 rfl (by decide +kernel) ?_
      refine s_iconst (pc := 69) (n := 1) (v := (1 : Int32)) (by decide) (by decide +kernel) ?_
      refine s_iadd (pc := 70) (by decide +kernel) ?_
      refine s_putI (pc := 71) (k := 38) c10 ft_X7_289 (fw_7_38 _ _) rfl rfl (by decide +kernel) ?_
      refine s_nmH (o := g7) rfl (fun g11 e12 => ?_)
      refine s_aload_n (pc := 74) (k0 := 0) (i := 0) rfl 2 rfl (by decide +kernel) ?_
      refine s_iconst (pc := 75) (n := 1) (v := (1 : Int32)) (by decide) (by decide +kernel) ?_
      refine s_bipush (pc := 76) (n := 60) (v := (60 : Int32)) (by decide) (by decide +kernel) ?_
      have c13 := kp e12 c10 (by decide)
      refine s_cVi (pc := 78) [.int (1 : Int32), .int (60 : Int32)] (tX7_number a0 (1 : Int32) (60 : Int32) g11) c13 cw_X7_313 rfl ⟨⟨Nat.le_of_ble_eq_true rfl, Nat.le_of_ble_eq_true rfl⟩, Nat.le_of_ble_eq_true rfl⟩ rfl (by decide +kernel) (fun w16 g14 e15 => ?_)
      refine s_istore_n (pc := 81) (L' := [(3, .int w16), (2, .int w4), (0, .ref a0), (1, .int a1)]) (k0 := 3) (i := 3) rfl (by decide) rfl (by decide +kernel) ?_
      refine S_sub [2, 3, 1, 0] rfl ?_
      exact pX7_fraction_b82 a0 a1 w4 w16 g14
    · refine S_sub [2, 3, 1, 0] rfl ?_
      exact pX7_fraction_b82 a0 a1 w4 v5 g7
theorem pX7_fraction_b14 {h0 : xH}   (s0 : Int32) (a0 : Nat) (h : xH) : S emI kX7_fraction h0 14 [(0, .ref a0)] [.int s0] h (fX7_fraction_b14 s0 a0 h) := by
  unfold fX7_fraction_b14
  refine s_istore_n (pc := 14) (L' := [(1, .int s0), (0, .ref a0)]) (k0 := 1) (i := 1) rfl (by decide) rfl (by decide +kernel) ?_
  refine s_aload_n (pc := 15) (k0 := 0) (i := 0) rfl 1 rfl (by decide +kernel) ?_
  refine s_aload_n (pc := 16) (k0 := 0) (i := 0) rfl 1 rfl (by decide +kernel) ?_
  refine S_gd (fun c1 => ?_)
  refine s_getI (pc := 17) (k := 38) c1 ft_X7_289 rfl (by decide +kernel) ?_
  refine s_putI (pc := 20) (k := 40) c1 ft_X7_310 (fw_7_40 _ _) rfl rfl (by decide +kernel) ?_
  refine s_nmH (o := h) rfl (fun g2 e3 => ?_)
  refine s_iload_n (pc := 23) (k0 := 1) (i := 1) rfl 0 rfl (by decide +kernel) ?_
  refine s_if_eq (pc := 24) (off := 13) 37 (by decide +kernel) (by decide) (fun _ => ?_) (fun _ => ?_)
  · refine S_sub [1, 0] rfl ?_
    exact pX7_fraction_b37 a0 s0 g2
  · refine s_aload_n (pc := 27) (k0 := 0) (i := 0) rfl 1 rfl (by decide +kernel) ?_
    refine s_dup_a (pc := 28) (by decide +kernel) ?_
    have c4 := kp e3 c1 (by decide)
    refine s_getI (pc := 29) (k := 38) c4 ft_X7_289 rfl (by decide +kernel) ?_
    refine s_iconst (pc := 32) (n := 1) (v := (1 : Int32)) (by decide) (by decide +kernel) ?_
    refine s_iadd (pc := 33) (by decide +kernel) ?_
    refine s_putI (pc := 34) (k := 38) c4 ft_X7_289 (fw_7_38 _ _) rfl rfl (by decide +kernel) ?_
    refine s_nmH (o := g2) rfl (fun g5 e6 => ?_)
    refine S_sub [1, 0] rfl ?_
    exact pX7_fraction_b37 a0 s0 g5
theorem pX7_fraction_e    (a0 : Nat) (h : xH) : S emI kX7_fraction h 0 [(0, .ref a0)] [] h (fX7_fraction  a0 h) := by
  unfold fX7_fraction
  refine s_aload_n (pc := 0) (k0 := 0) (i := 0) rfl 0 rfl (by decide +kernel) ?_
  refine S_gd (fun c1 => ?_)
  refine s_cVi (pc := 1) [] (tX7_sign a0 h) c1 cw_X7_300 rfl ⟨⟨Nat.le_of_ble_eq_true rfl, Nat.le_of_ble_eq_true rfl⟩, Nat.le_of_ble_eq_true rfl⟩ rfl (by decide +kernel) (fun w4 g2 e3 => ?_)
  refine s_bipush (pc := 4) (n := 45) (v := (45 : Int32)) (by decide) (by decide +kernel) ?_
  refine s_icmp_ne (pc := 6) (off := 7) 13 (by decide +kernel) (by decide) (fun _ => ?_) (fun _ => ?_)
  · refine s_iconst (pc := 9) (n := 1) (v := (1 : Int32)) (by decide) (by decide +kernel) ?_
    refine s_goto (pc := 10) (off := 4) 14 (by decide +kernel) (by decide) ?_
    exact pX7_fraction_b14 (1 : Int32) a0 g2
  · refine s_iconst (pc := 13) (n := 0) (v := (0 : Int32)) (by decide) (by decide +kernel) ?_
    exact pX7_fraction_b14 (0 : Int32) a0 g2
theorem tX7_fraction (a0 : Nat) (h : xH) : Ct yX7_fraction kX7_fraction emI [.ref a0] h (fX7_fraction a0 h) := Ct_of (by decide +kernel) rfl rfl rfl (Nat.le_of_ble_eq_true rfl) rfl (pX7_fraction_e a0 h)
def fX7_readKnot_b188   (a0 : Nat) (h : xH) : Option (Unit × xH) :=
  if kc h a0 = 7 then
  lt (sI h a0 44 ((hI h a0 44) + (1 : Int32))) (fun g2 =>
  some ((), g2))
  else none
def fX7_readKnot_b111   (a0 : Nat) (a1 : Int32) (a2 : Int32) (h : xH) : Option (Unit × xH) :=
  if kc h a0 = 7 then
  if (hI h a0 39) = 0 then (
  some ((), h))
  else (
  lt (sI h a0 38 ((hI h a0 38) + (1 : Int32))) (fun g2 =>
  bd (fX7_fraction a0 g2) (fun w7 g5 =>
  if (hI g5 a0 39) = 0 then (
  some ((), g5))
  else (
  if kc g5 (hR g5 a0 41) = 8 then
  if ix (hI g5 a0 44) (kl g5 (hR g5 a0 41)) then
  lt (sI g5 (hR g5 a0 41) (hI g5 a0 44).toNatClampNeg a2) (fun g11 =>
  if kc g11 (hR g11 a0 42) = 8 then
  if ix (hI g11 a0 44) (kl g11 (hR g11 a0 42)) then
  lt (sI g11 (hR g11 a0 42) (hI g11 a0 44).toNatClampNeg w7) (fun g16 =>
  if kc g16 (hR g16 a0 43) = 10 then
  if ix (hI g16 a0 44) (kl g16 (hR g16 a0 43)) then
  lt (sI g16 (hR g16 a0 43) (hI g16 a0 44).toNatClampNeg (0 : Int32)) (fun g21 =>
  if a1 = 0 then (
  if kc g21 (hR g21 a0 43) = 10 then
  if ix ((hI g21 a0 44) - (1 : Int32)) (kl g21 (hR g21 a0 43)) then
  lt (sI g21 (hR g21 a0 43) ((hI g21 a0 44) - (1 : Int32)).toNatClampNeg (1 : Int32)) (fun g26 =>
  fX7_readKnot_b188 a0 g26)
  else none
  else none)
  else (
  fX7_readKnot_b188 a0 g21))
  else none
  else none)
  else none
  else none)
  else none
  else none))))
  else none
def fX7_readKnot_b87   (a0 : Nat) (a1 : Int32) (a2 : Int32) (h : xH) : Option (Unit × xH) :=
  if kc h a0 = 7 then
  if (hI h a0 39) = 0 then (
  fX7_readKnot_b111 a0 a1 a2 h)
  else (
  bd (fX7_sign a0 h) (fun w4 g2 =>
  if w4 = (44 : Int32) then (
  fX7_readKnot_b111 a0 a1 a2 g2)
  else (
  bd (fX7_wrong a0 (hI g2 a0 38) g2) (fun _ g6 =>
  fX7_readKnot_b111 a0 a1 a2 g6))))
  else none
def fX7_readKnot_b79   (a0 : Nat) (a1 : Int32) (a2 : Int32) (h : xH) : Option (Unit × xH) :=
  if kc h a0 = 7 then
  bd (fX7_wrong a0 (hI h a0 40) h) (fun _ g2 =>
  fX7_readKnot_b87 a0 a1 a2 g2)
  else none
def fX7_readKnot   (a0 : Nat) (a1 : Int32) (h : xH) : Option (Unit × xH) :=
  if kc h a0 = 7 then
  bd (fX7_sign a0 h) (fun w4 g2 =>
  if (hI g2 a0 44) = (12 : Int32) then (
  bd (fX7_wrong a0 (hI g2 a0 38) g2) (fun _ g14 =>
  some ((), g14)))
  else (
  bd (fX7_fraction a0 g2) (fun w8 g6 =>
  if (hI g6 a0 39) = 0 then (
  fX7_readKnot_b87 a0 a1 w8 g6)
  else (
  if (hI g6 a0 44) ≤ 0 then (
  fX7_readKnot_b87 a0 a1 w8 g6)
  else (
  if a1 = 0 then (
  if kc g6 (hR g6 a0 41) = 8 then
  if ix ((hI g6 a0 44) - (1 : Int32)) (kl g6 (hR g6 a0 41)) then
  if (hI g6 (hR g6 a0 41) ((hI g6 a0 44) - (1 : Int32)).toNatClampNeg) < w8 then (
  fX7_readKnot_b87 a0 a1 w8 g6)
  else (
  fX7_readKnot_b79 a0 a1 w8 g6)
  else none
  else none)
  else (
  if kc g6 (hR g6 a0 41) = 8 then
  if ix ((hI g6 a0 44) - (1 : Int32)) (kl g6 (hR g6 a0 41)) then
  if (hI g6 (hR g6 a0 41) ((hI g6 a0 44) - (1 : Int32)).toNatClampNeg) ≤ w8 then (
  fX7_readKnot_b87 a0 a1 w8 g6)
  else (
  fX7_readKnot_b79 a0 a1 w8 g6)
  else none
  else none))))))
  else none
theorem pX7_readKnot_b188 {h0 : xH}    (a0 : Nat) (h : xH) : S emV kX7_readKnot h0 188 [(0, .ref a0)] [] h (fX7_readKnot_b188  a0 h) := by
  unfold fX7_readKnot_b188
  refine s_aload_n (pc := 188) (k0 := 0) (i := 0) rfl 0 rfl (by decide +kernel) ?_
  refine s_dup_a (pc := 189) (by decide +kernel) ?_
  refine S_gd (fun c1 => ?_)
  refine s_getI (pc := 190) (k := 44) c1 ft_X7_316 rfl (by decide +kernel) ?_
  refine s_iconst (pc := 193) (n := 1) (v := (1 : Int32)) (by decide) (by decide +kernel) ?_
  refine s_iadd (pc := 194) (by decide +kernel) ?_
  refine s_putI (pc := 195) (k := 44) c1 ft_X7_316 (fw_7_44 _ _) rfl rfl (by decide +kernel) ?_
  refine s_nmH (o := h) rfl (fun g2 e3 => ?_)
  exact s_vret (pc := 198) rfl (by decide +kernel)
theorem pX7_readKnot_b111 {h0 : xH}    (a0 : Nat) (a1 : Int32) (a2 : Int32) (h : xH) : S emV kX7_readKnot h0 111 [(0, .ref a0), (1, .int a1), (2, .int a2)] [] h (fX7_readKnot_b111  a0 a1 a2 h) := by
  unfold fX7_readKnot_b111
  refine s_aload_n (pc := 111) (k0 := 0) (i := 0) rfl 0 rfl (by decide +kernel) ?_
  refine S_gd (fun c1 => ?_)
  refine s_getI (pc := 112) (k := 39) c1 ft_X7_296 rfl (by decide +kernel) ?_
  refine s_if_ne (pc := 115) (off := 4) 119 (by decide +kernel) (by decide) (fun _ => ?_) (fun _ => ?_)
  · exact s_vret (pc := 118) rfl (by decide +kernel)
  · refine s_aload_n (pc := 119) (k0 := 0) (i := 0) rfl 0 rfl (by decide +kernel) ?_
    refine s_dup_a (pc := 120) (by decide +kernel) ?_
    refine s_getI (pc := 121) (k := 38) c1 ft_X7_289 rfl (by decide +kernel) ?_
    refine s_iconst (pc := 124) (n := 1) (v := (1 : Int32)) (by decide) (by decide +kernel) ?_
    refine s_iadd (pc := 125) (by decide +kernel) ?_
    refine s_putI (pc := 126) (k := 38) c1 ft_X7_289 (fw_7_38 _ _) rfl rfl (by decide +kernel) ?_
    refine s_nmH (o := h) rfl (fun g2 e3 => ?_)
    refine s_aload_n (pc := 129) (k0 := 0) (i := 0) rfl 0 rfl (by decide +kernel) ?_
    have c4 := kp e3 c1 (by decide)
    refine s_cVi (pc := 130) [] (tX7_fraction a0 g2) c4 cw_X7_319 rfl ⟨⟨Nat.le_of_ble_eq_true rfl, Nat.le_of_ble_eq_true rfl⟩, Nat.le_of_ble_eq_true rfl⟩ rfl (by decide +kernel) (fun w7 g5 e6 => ?_)
    refine s_istore_n (pc := 133) (L' := [(3, .int w7), (0, .ref a0), (1, .int a1), (2, .int a2)]) (k0 := 3) (i := 3) rfl (by decide) rfl (by decide +kernel) ?_
    refine s_aload_n (pc := 134) (k0 := 0) (i := 0) rfl 1 rfl (by decide +kernel) ?_
    have c8 := kp e6 c4 (by decide)
    refine s_getI (pc := 135) (k := 39) c8 ft_X7_296 rfl (by decide +kernel) ?_
    refine s_if_ne (pc := 138) (off := 4) 142 (by decide +kernel) (by decide) (fun _ => ?_) (fun _ => ?_)
    · exact s_vret (pc := 141) rfl (by decide +kernel)
    · refine s_aload_n (pc := 142) (k0 := 0) (i := 0) rfl 1 rfl (by decide +kernel) ?_
      refine s_getR (pc := 143) (k := 41) c8 ft_X7_98 rfl (by decide +kernel) ?_
      refine s_aload_n (pc := 146) (k0 := 0) (i := 0) rfl 1 rfl (by decide +kernel) ?_
      refine s_getI (pc := 147) (k := 44) c8 ft_X7_316 rfl (by decide +kernel) ?_
      refine s_iload_n (pc := 150) (k0 := 2) (i := 2) rfl 3 rfl (by decide +kernel) ?_
      refine S_gd (fun c9 => ?_)
      refine S_gd (fun c10 => ?_)
      refine s_iast (pc := 151) c9 c10 (by decide +kernel) ?_
      refine s_nmH (o := g5) rfl (fun g11 e12 => ?_)
      refine s_aload_n (pc := 152) (k0 := 0) (i := 0) rfl 1 rfl (by decide +kernel) ?_
      have c13 := kp e12 c8 (by decide)
      refine s_getR (pc := 153) (k := 42) c13 ft_X7_101 rfl (by decide +kernel) ?_
      refine s_aload_n (pc := 156) (k0 := 0) (i := 0) rfl 1 rfl (by decide +kernel) ?_
      refine s_getI (pc := 157) (k := 44) c13 ft_X7_316 rfl (by decide +kernel) ?_
      refine s_iload_n (pc := 160) (k0 := 3) (i := 3) rfl 0 rfl (by decide +kernel) ?_
      refine S_gd (fun c14 => ?_)
      refine S_gd (fun c15 => ?_)
      refine s_iast (pc := 161) c14 c15 (by decide +kernel) ?_
      refine s_nmH (o := g11) rfl (fun g16 e17 => ?_)
      refine s_aload_n (pc := 162) (k0 := 0) (i := 0) rfl 1 rfl (by decide +kernel) ?_
      have c18 := kp e17 c13 (by decide)
      refine s_getR (pc := 163) (k := 43) c18 ft_X7_104 rfl (by decide +kernel) ?_
      refine s_aload_n (pc := 166) (k0 := 0) (i := 0) rfl 1 rfl (by decide +kernel) ?_
      refine s_getI (pc := 167) (k := 44) c18 ft_X7_316 rfl (by decide +kernel) ?_
      refine s_iconst (pc := 170) (n := 0) (v := (0 : Int32)) (by decide) (by decide +kernel) ?_
      refine S_gd (fun c19 => ?_)
      refine S_gd (fun c20 => ?_)
      refine s_zast (pc := 171) (by decide) c19 c20 (by decide +kernel) ?_
      refine s_nmH (o := g16) rfl (fun g21 e22 => ?_)
      refine s_iload_n (pc := 172) (k0 := 1) (i := 1) rfl 2 rfl (by decide +kernel) ?_
      refine s_if_ne (pc := 173) (off := 15) 188 (by decide +kernel) (by decide) (fun _ => ?_) (fun _ => ?_)
      · refine s_aload_n (pc := 176) (k0 := 0) (i := 0) rfl 1 rfl (by decide +kernel) ?_
        have c23 := kp e22 c18 (by decide)
        refine s_getR (pc := 177) (k := 43) c23 ft_X7_104 rfl (by decide +kernel) ?_
        refine s_aload_n (pc := 180) (k0 := 0) (i := 0) rfl 1 rfl (by decide +kernel) ?_
        refine s_getI (pc := 181) (k := 44) c23 ft_X7_316 rfl (by decide +kernel) ?_
        refine s_iconst (pc := 184) (n := 1) (v := (1 : Int32)) (by decide) (by decide +kernel) ?_
        refine s_isub (pc := 185) (by decide +kernel) ?_
        refine s_iconst (pc := 186) (n := 1) (v := (1 : Int32)) (by decide) (by decide +kernel) ?_
        refine S_gd (fun c24 => ?_)
        refine S_gd (fun c25 => ?_)
        refine s_zast (pc := 187) (by decide) c24 c25 (by decide +kernel) ?_
        refine s_nmH (o := g21) rfl (fun g26 e27 => ?_)
        refine S_sub [1] rfl ?_
        exact pX7_readKnot_b188 a0 g26
      · refine S_sub [1] rfl ?_
        exact pX7_readKnot_b188 a0 g21
theorem pX7_readKnot_b87 {h0 : xH}    (a0 : Nat) (a1 : Int32) (a2 : Int32) (h : xH) : S emV kX7_readKnot h0 87 [(0, .ref a0), (1, .int a1), (2, .int a2)] [] h (fX7_readKnot_b87  a0 a1 a2 h) := by
  unfold fX7_readKnot_b87
  refine s_aload_n (pc := 87) (k0 := 0) (i := 0) rfl 0 rfl (by decide +kernel) ?_
  refine S_gd (fun c1 => ?_)
  refine s_getI (pc := 88) (k := 39) c1 ft_X7_296 rfl (by decide +kernel) ?_
  refine s_if_eq (pc := 91) (off := 20) 111 (by decide +kernel) (by decide) (fun _ => ?_) (fun _ => ?_)
  · exact pX7_readKnot_b111 a0 a1 a2 h
  · refine s_aload_n (pc := 94) (k0 := 0) (i := 0) rfl 0 rfl (by decide +kernel) ?_
    refine s_cVi (pc := 95) [] (tX7_sign a0 h) c1 cw_X7_300 rfl ⟨⟨Nat.le_of_ble_eq_true rfl, Nat.le_of_ble_eq_true rfl⟩, Nat.le_of_ble_eq_true rfl⟩ rfl (by decide +kernel) (fun w4 g2 e3 => ?_)
    refine s_bipush (pc := 98) (n := 44) (v := (44 : Int32)) (by decide) (by decide +kernel) ?_
    refine s_icmp_eq (pc := 100) (off := 11) 111 (by decide +kernel) (by decide) (fun _ => ?_) (fun _ => ?_)
    · exact pX7_readKnot_b111 a0 a1 a2 g2
    · refine s_aload_n (pc := 103) (k0 := 0) (i := 0) rfl 0 rfl (by decide +kernel) ?_
      refine s_aload_n (pc := 104) (k0 := 0) (i := 0) rfl 0 rfl (by decide +kernel) ?_
      have c5 := kp e3 c1 (by decide)
      refine s_getI (pc := 105) (k := 38) c5 ft_X7_289 rfl (by decide +kernel) ?_
      refine s_cVv (pc := 108) [.int (hI g2 a0 38)] (tX7_wrong a0 (hI g2 a0 38) g2) c5 cw_X7_306 rfl ⟨⟨Nat.le_of_ble_eq_true rfl, Nat.le_of_ble_eq_true rfl⟩, Nat.le_of_ble_eq_true rfl⟩ rfl (by decide +kernel) (fun _ g6 e7 => ?_)
      exact pX7_readKnot_b111 a0 a1 a2 g6
theorem pX7_readKnot_b79 {h0 : xH}    (a0 : Nat) (a1 : Int32) (a2 : Int32) (h : xH) : S emV kX7_readKnot h0 79 [(0, .ref a0), (1, .int a1), (2, .int a2)] [] h (fX7_readKnot_b79  a0 a1 a2 h) := by
  unfold fX7_readKnot_b79
  refine s_aload_n (pc := 79) (k0 := 0) (i := 0) rfl 0 rfl (by decide +kernel) ?_
  refine s_aload_n (pc := 80) (k0 := 0) (i := 0) rfl 0 rfl (by decide +kernel) ?_
  refine S_gd (fun c1 => ?_)
  refine s_getI (pc := 81) (k := 40) c1 ft_X7_310 rfl (by decide +kernel) ?_
  refine s_cVv (pc := 84) [.int (hI h a0 40)] (tX7_wrong a0 (hI h a0 40) h) c1 cw_X7_306 rfl ⟨⟨Nat.le_of_ble_eq_true rfl, Nat.le_of_ble_eq_true rfl⟩, Nat.le_of_ble_eq_true rfl⟩ rfl (by decide +kernel) (fun _ g2 e3 => ?_)
  exact pX7_readKnot_b87 a0 a1 a2 g2
theorem pX7_readKnot_e    (a0 : Nat) (a1 : Int32) (h : xH) : S emV kX7_readKnot h 0 [(0, .ref a0), (1, .int a1)] [] h (fX7_readKnot  a0 a1 h) := by
  unfold fX7_readKnot
  refine s_aload_n (pc := 0) (k0 := 0) (i := 0) rfl 0 rfl (by decide +kernel) ?_
  refine S_gd (fun c1 => ?_)
  refine s_cVi (pc := 1) [] (tX7_sign a0 h) c1 cw_X7_300 rfl ⟨⟨Nat.le_of_ble_eq_true rfl, Nat.le_of_ble_eq_true rfl⟩, Nat.le_of_ble_eq_true rfl⟩ rfl (by decide +kernel) (fun w4 g2 e3 => ?_)
  refine s_pop_i (pc := 4) (by decide +kernel) ?_
  refine s_aload_n (pc := 5) (k0 := 0) (i := 0) rfl 0 rfl (by decide +kernel) ?_
  have c5 := kp e3 c1 (by decide)
  refine s_getI (pc := 6) (k := 44) c5 ft_X7_316 rfl (by decide +kernel) ?_
  refine s_bipush (pc := 9) (n := 12) (v := (12 : Int32)) (by decide) (by decide +kernel) ?_
  refine s_icmp_ne (pc := 11) (off := 12) 23 (by decide +kernel) (by decide) (fun _ => ?_) (fun _ => ?_)
  · refine s_aload_n (pc := 14) (k0 := 0) (i := 0) rfl 0 rfl (by decide +kernel) ?_
    refine s_aload_n (pc := 15) (k0 := 0) (i := 0) rfl 0 rfl (by decide +kernel) ?_
    refine s_getI (pc := 16) (k := 38) c5 ft_X7_289 rfl (by decide +kernel) ?_
    refine s_cVv (pc := 19) [.int (hI g2 a0 38)] (tX7_wrong a0 (hI g2 a0 38) g2) c5 cw_X7_306 rfl ⟨⟨Nat.le_of_ble_eq_true rfl, Nat.le_of_ble_eq_true rfl⟩, Nat.le_of_ble_eq_true rfl⟩ rfl (by decide +kernel) (fun _ g14 e15 => ?_)
    exact s_vret (pc := 22) rfl (by decide +kernel)
  · refine s_aload_n (pc := 23) (k0 := 0) (i := 0) rfl 0 rfl (by decide +kernel) ?_
    refine s_cVi (pc := 24) [] (tX7_fraction a0 g2) c5 cw_X7_319 rfl ⟨⟨Nat.le_of_ble_eq_true rfl, Nat.le_of_ble_eq_true rfl⟩, Nat.le_of_ble_eq_true rfl⟩ rfl (by decide +kernel) (fun w8 g6 e7 => ?_)
    refine s_istore_n (pc := 27) (L' := [(2, .int w8), (0, .ref a0), (1, .int a1)]) (k0 := 2) (i := 2) rfl (by decide) rfl (by decide +kernel) ?_
    refine s_aload_n (pc := 28) (k0 := 0) (i := 0) rfl 1 rfl (by decide +kernel) ?_
    have c9 := kp e7 c5 (by decide)
    refine s_getI (pc := 29) (k := 39) c9 ft_X7_296 rfl (by decide +kernel) ?_
    refine s_if_eq (pc := 32) (off := 55) 87 (by decide +kernel) (by decide) (fun _ => ?_) (fun _ => ?_)
    · refine S_sub [1, 2, 0] rfl ?_
      exact pX7_readKnot_b87 a0 a1 w8 g6
    · refine s_aload_n (pc := 35) (k0 := 0) (i := 0) rfl 1 rfl (by decide +kernel) ?_
      refine s_getI (pc := 36) (k := 44) c9 ft_X7_316 rfl (by decide +kernel) ?_
      refine s_if_le (pc := 39) (off := 48) 87 (by decide +kernel) (by decide) (fun _ => ?_) (fun _ => ?_)
      · refine S_sub [1, 2, 0] rfl ?_
        exact pX7_readKnot_b87 a0 a1 w8 g6
      · refine s_iload_n (pc := 42) (k0 := 1) (i := 1) rfl 2 rfl (by decide +kernel) ?_
        refine s_if_eq (pc := 43) (off := 21) 64 (by decide +kernel) (by decide) (fun _ => ?_) (fun _ => ?_)
        · refine s_iload_n (pc := 64) (k0 := 2) (i := 2) rfl 0 rfl (by decide +kernel) ?_
          refine s_aload_n (pc := 65) (k0 := 0) (i := 0) rfl 1 rfl (by decide +kernel) ?_
          refine s_getR (pc := 66) (k := 41) c9 ft_X7_98 rfl (by decide +kernel) ?_
          refine s_aload_n (pc := 69) (k0 := 0) (i := 0) rfl 1 rfl (by decide +kernel) ?_
          refine s_getI (pc := 70) (k := 44) c9 ft_X7_316 rfl (by decide +kernel) ?_
          refine s_iconst (pc := 73) (n := 1) (v := (1 : Int32)) (by decide) (by decide +kernel) ?_
          refine s_isub (pc := 74) (by decide +kernel) ?_
          refine S_gd (fun c10 => ?_)
          refine S_gd (fun c11 => ?_)
          refine s_iald (pc := 75) c10 c11 (by decide +kernel) ?_
          refine s_icmp_gt (pc := 76) (off := 11) 87 (by decide +kernel) (by decide) (fun _ => ?_) (fun _ => ?_)
          · refine S_sub [1, 2, 0] rfl ?_
            exact pX7_readKnot_b87 a0 a1 w8 g6
          · refine S_sub [1, 2, 0] rfl ?_
            exact pX7_readKnot_b79 a0 a1 w8 g6
        · refine s_iload_n (pc := 46) (k0 := 2) (i := 2) rfl 0 rfl (by decide +kernel) ?_
          refine s_aload_n (pc := 47) (k0 := 0) (i := 0) rfl 1 rfl (by decide +kernel) ?_
          refine s_getR (pc := 48) (k := 41) c9 ft_X7_98 rfl (by decide +kernel) ?_
          refine s_aload_n (pc := 51) (k0 := 0) (i := 0) rfl 1 rfl (by decide +kernel) ?_
          refine s_getI (pc := 52) (k := 44) c9 ft_X7_316 rfl (by decide +kernel) ?_
          refine s_iconst (pc := 55) (n := 1) (v := (1 : Int32)) (by decide) (by decide +kernel) ?_
          refine s_isub (pc := 56) (by decide +kernel) ?_
          refine S_gd (fun c12 => ?_)
          refine S_gd (fun c13 => ?_)
          refine s_iald (pc := 57) c12 c13 (by decide +kernel) ?_
          refine s_icmp_ge (pc := 58) (off := 29) 87 (by decide +kernel) (by decide) (fun _ => ?_) (fun _ => ?_)
          · refine S_sub [1, 2, 0] rfl ?_
            exact pX7_readKnot_b87 a0 a1 w8 g6
          · refine s_goto (pc := 61) (off := 18) 79 (by decide +kernel) (by decide) ?_
            refine S_sub [1, 2, 0] rfl ?_
            exact pX7_readKnot_b79 a0 a1 w8 g6
theorem tX7_readKnot (a0 : Nat) (a1 : Int32) (h : xH) : Ct yX7_readKnot kX7_readKnot emV [.ref a0, .int a1] h (fX7_readKnot a0 a1 h) := Ct_of (by decide +kernel) rfl rfl rfl (Nat.le_of_ble_eq_true rfl) rfl (pX7_readKnot_e a0 a1 h)
def fX7_readPart_b31 (r5 : Nat → xH → Option (Unit × xH))  (a0 : Nat) (h : xH) : Option (Unit × xH) :=
  if kc h a0 = 7 then
  bd (fX7_readKnot a0 (0 : Int32) h) (fun _ g2 =>
  r5 a0 g2)
  else none
def fX7_readPart_b5 (r5 : Nat → xH → Option (Unit × xH))  (a0 : Nat) (h : xH) : Option (Unit × xH) :=
  if kc h a0 = 7 then
  if (hI h a0 39) = 0 then (
  some ((), h))
  else (
  bd (fX7_sign a0 h) (fun w4 g2 =>
  bd (fX7_isDigit w4 g2) (fun w7 g5 =>
  if w7 = 0 then (
  bd (fX7_sign a0 g5) (fun w11 g9 =>
  if w11 = (45 : Int32) then (
  fX7_readPart_b31 r5 a0 g9)
  else (
  some ((), g9))))
  else (
  fX7_readPart_b31 r5 a0 g5))))
  else none
def fX7_readPart_l5  : Nat → Nat → xH → Option (Unit × xH)
  | 0 => fun _ _ => none
  | k + 1 => fX7_readPart_b5 (fX7_readPart_l5  k)
def fX7_readPart   (a0 : Nat) (h : xH) : Option (Unit × xH) :=
  if kc h a0 = 7 then
  bd (fX7_readKnot a0 (1 : Int32) h) (fun _ g2 =>
  fX7_readPart_l5 FU a0 g2)
  else none
theorem pX7_readPart_b31 {h0 : xH} {r5 : Nat → xH → Option (Unit × xH)} (hr5 : ∀  (a0 : Nat) (g : xH), S emV kX7_readPart h0 5 [(0, .ref a0)] [] g (r5  a0 g))  (a0 : Nat) (h : xH) : S emV kX7_readPart h0 31 [(0, .ref a0)] [] h (fX7_readPart_b31 r5 a0 h) := by
  unfold fX7_readPart_b31
  refine s_aload_n (pc := 31) (k0 := 0) (i := 0) rfl 0 rfl (by decide +kernel) ?_
  refine s_iconst (pc := 32) (n := 0) (v := (0 : Int32)) (by decide) (by decide +kernel) ?_
  refine S_gd (fun c1 => ?_)
  refine s_cVv (pc := 33) [.int (0 : Int32)] (tX7_readKnot a0 (0 : Int32) h) c1 cw_X7_322 rfl ⟨⟨Nat.le_of_ble_eq_true rfl, Nat.le_of_ble_eq_true rfl⟩, Nat.le_of_ble_eq_true rfl⟩ rfl (by decide +kernel) (fun _ g2 e3 => ?_)
  refine s_goto (pc := 36) (off := -31) 5 (by decide +kernel) (by decide) ?_
  exact hr5 a0 g2
theorem pX7_readPart_b5 {h0 : xH} {r5 : Nat → xH → Option (Unit × xH)} (hr5 : ∀  (a0 : Nat) (g : xH), S emV kX7_readPart h0 5 [(0, .ref a0)] [] g (r5  a0 g))  (a0 : Nat) (h : xH) : S emV kX7_readPart h0 5 [(0, .ref a0)] [] h (fX7_readPart_b5 r5 a0 h) := by
  unfold fX7_readPart_b5
  refine s_aload_n (pc := 5) (k0 := 0) (i := 0) rfl 0 rfl (by decide +kernel) ?_
  refine S_gd (fun c1 => ?_)
  refine s_getI (pc := 6) (k := 39) c1 ft_X7_296 rfl (by decide +kernel) ?_
  refine s_if_eq (pc := 9) (off := 30) 39 (by decide +kernel) (by decide) (fun _ => ?_) (fun _ => ?_)
  · exact s_vret (pc := 39) rfl (by decide +kernel)
  · refine s_aload_n (pc := 12) (k0 := 0) (i := 0) rfl 0 rfl (by decide +kernel) ?_
    refine s_cVi (pc := 13) [] (tX7_sign a0 h) c1 cw_X7_300 rfl ⟨⟨Nat.le_of_ble_eq_true rfl, Nat.le_of_ble_eq_true rfl⟩, Nat.le_of_ble_eq_true rfl⟩ rfl (by decide +kernel) (fun w4 g2 e3 => ?_)
    refine s_cSi (pc := 16) [.int w4] (tX7_isDigit w4 g2) cw_X7_303 rfl ⟨⟨Nat.le_of_ble_eq_true rfl, Nat.le_of_ble_eq_true rfl⟩, Nat.le_of_ble_eq_true rfl⟩ rfl (by decide +kernel) (fun w7 g5 e6 => ?_)
    refine s_if_ne (pc := 19) (off := 12) 31 (by decide +kernel) (by decide) (fun _ => ?_) (fun _ => ?_)
    · refine s_aload_n (pc := 22) (k0 := 0) (i := 0) rfl 0 rfl (by decide +kernel) ?_
      have c8 := kp (Le.tr e3 e6) c1 (by decide)
      refine s_cVi (pc := 23) [] (tX7_sign a0 g5) c8 cw_X7_300 rfl ⟨⟨Nat.le_of_ble_eq_true rfl, Nat.le_of_ble_eq_true rfl⟩, Nat.le_of_ble_eq_true rfl⟩ rfl (by decide +kernel) (fun w11 g9 e10 => ?_)
      refine s_bipush (pc := 26) (n := 45) (v := (45 : Int32)) (by decide) (by decide +kernel) ?_
      refine s_icmp_ne (pc := 28) (off := 11) 39 (by decide +kernel) (by decide) (fun _ => ?_) (fun _ => ?_)
      · exact pX7_readPart_b31 hr5 a0 g9
      · exact s_vret (pc := 39) rfl (by decide +kernel)
    · exact pX7_readPart_b31 hr5 a0 g5
theorem pX7_readPart_l5 {h0 : xH}   : ∀ (k : Nat)  (a0 : Nat) (h : xH), S emV kX7_readPart h0 5 [(0, .ref a0)] [] h (fX7_readPart_l5  k  a0 h) := by
  intro k
  induction k with
  | zero => intros; exact S_none
  | succ k ih => intro  a0 h; exact pX7_readPart_b5 ih  a0 h
theorem pX7_readPart_e    (a0 : Nat) (h : xH) : S emV kX7_readPart h 0 [(0, .ref a0)] [] h (fX7_readPart  a0 h) := by
  unfold fX7_readPart
  refine s_aload_n (pc := 0) (k0 := 0) (i := 0) rfl 0 rfl (by decide +kernel) ?_
  refine s_iconst (pc := 1) (n := 1) (v := (1 : Int32)) (by decide) (by decide +kernel) ?_
  refine S_gd (fun c1 => ?_)
  refine s_cVv (pc := 2) [.int (1 : Int32)] (tX7_readKnot a0 (1 : Int32) h) c1 cw_X7_322 rfl ⟨⟨Nat.le_of_ble_eq_true rfl, Nat.le_of_ble_eq_true rfl⟩, Nat.le_of_ble_eq_true rfl⟩ rfl (by decide +kernel) (fun _ g2 e3 => ?_)
  exact pX7_readPart_l5 FU a0 g2
theorem tX7_readPart (a0 : Nat) (h : xH) : Ct yX7_readPart kX7_readPart emV [.ref a0] h (fX7_readPart a0 h) := Ct_of (by decide +kernel) rfl rfl rfl (Nat.le_of_ble_eq_true rfl) rfl (pX7_readPart_e a0 h)
def fX7_lay_b58 (r46 : Nat → Nat → Nat → Int32 → Int32 → xH → Option (Unit × xH)) (r58 : Nat → Nat → Nat → Int32 → Int32 → Int32 → xH → Option (Unit × xH))  (a0 : Nat) (a3 : Nat) (a4 : Nat) (a5 : Int32) (a6 : Int32) (a7 : Int32) (h : xH) : Option (Unit × xH) :=
  if (4 : Int32) ≤ a7 then (
  if kc h a0 = 7 then
  if kc h (hR h a0 6) = 10 then
  if ix a6 (kl h (hR h a0 6)) then
  if (hI h (hR h a0 6) a6.toNatClampNeg) = 0 ∨ (hI h (hR h a0 6) a6.toNatClampNeg) = 1 then
  if kc h a4 = 10 then
  if ix (((1600 : Int32) * a5) + a6) (kl h a4) then
  lt (sI h a4 (((1600 : Int32) * a5) + a6).toNatClampNeg (hI h (hR h a0 6) a6.toNatClampNeg)) (fun g7 =>
  lt (a6 + (1 : Int32)) (fun v9 =>
  r46 a0 a3 a4 a5 v9 g7))
  else none
  else none
  else none
  else none
  else none
  else none)
  else (
  if kc h a0 = 7 then
  if kc h (hR h a0 5) = 9 then
  if ix (((4 : Int32) * a6) + a7) (kl h (hR h a0 5)) then
  if kc h a3 = 9 then
  if ix (((4 : Int32) * (((1600 : Int32) * a5) + a6)) + a7) (kl h a3) then
  lt (sJ h a3 (((4 : Int32) * (((1600 : Int32) * a5) + a6)) + a7).toNatClampNeg (hJ h (hR h a0 5) (((4 : Int32) * a6) + a7).toNatClampNeg)) (fun g15 =>
  lt (a7 + (1 : Int32)) (fun v17 =>
  r58 a0 a3 a4 a5 a6 v17 g15))
  else none
  else none
  else none
  else none
  else none)
def fX7_lay_l58 (r46 : Nat → Nat → Nat → Int32 → Int32 → xH → Option (Unit × xH)) : Nat → Nat → Nat → Nat → Int32 → Int32 → Int32 → xH → Option (Unit × xH)
  | 0 => fun _ _ _ _ _ _ _ => none
  | k + 1 => fX7_lay_b58 r46 (fX7_lay_l58 r46 k)
def fX7_lay_b46 (r46 : Nat → Nat → Nat → Int32 → Int32 → xH → Option (Unit × xH))  (a0 : Nat) (a3 : Nat) (a4 : Nat) (a5 : Int32) (a6 : Int32) (h : xH) : Option (Unit × xH) :=
  if kc h a0 = 7 then
  if (hI h a0 4) ≤ a6 then (
  some ((), h))
  else (
  lt (0 : Int32) (fun v2 =>
  fX7_lay_l58 r46 FU a0 a3 a4 a5 a6 v2 h))
  else none
def fX7_lay_l46  : Nat → Nat → Nat → Nat → Int32 → Int32 → xH → Option (Unit × xH)
  | 0 => fun _ _ _ _ _ _ => none
  | k + 1 => fX7_lay_b46 (fX7_lay_l46  k)
def fX7_lay_b3 (r3 : Nat → Nat → Nat → Nat → Nat → Int32 → Int32 → xH → Option (Unit × xH))  (a0 : Nat) (a1 : Nat) (a2 : Nat) (a3 : Nat) (a4 : Nat) (a5 : Int32) (a6 : Int32) (h : xH) : Option (Unit × xH) :=
  if (222 : Int32) ≤ a6 then (
  if kc h a0 = 7 then
  if kc h a2 = 8 then
  if ix a5 (kl h a2) then
  lt (sI h a2 a5.toNatClampNeg (hI h a0 4)) (fun g4 =>
  lt (0 : Int32) (fun v6 =>
  fX7_lay_l46 FU a0 a3 a4 a5 v6 g4))
  else none
  else none
  else none)
  else (
  if kc h a0 = 7 then
  if kc h (hR h a0 3) = 8 then
  if ix a6 (kl h (hR h a0 3)) then
  if kc h a1 = 8 then
  if ix (((222 : Int32) * a5) + a6) (kl h a1) then
  lt (sI h a1 (((222 : Int32) * a5) + a6).toNatClampNeg (hI h (hR h a0 3) a6.toNatClampNeg)) (fun g12 =>
  lt (a6 + (1 : Int32)) (fun v14 =>
  r3 a0 a1 a2 a3 a4 a5 v14 g12))
  else none
  else none
  else none
  else none
  else none)
def fX7_lay_l3  : Nat → Nat → Nat → Nat → Nat → Nat → Int32 → Int32 → xH → Option (Unit × xH)
  | 0 => fun _ _ _ _ _ _ _ _ => none
  | k + 1 => fX7_lay_b3 (fX7_lay_l3  k)
def fX7_lay   (a0 : Nat) (a1 : Nat) (a2 : Nat) (a3 : Nat) (a4 : Nat) (a5 : Int32) (h : xH) : Option (Unit × xH) :=
  lt (0 : Int32) (fun v1 =>
  fX7_lay_l3 FU a0 a1 a2 a3 a4 a5 v1 h)
theorem pX7_lay_b58 {h0 : xH} {r46 : Nat → Nat → Nat → Int32 → Int32 → xH → Option (Unit × xH)} {r58 : Nat → Nat → Nat → Int32 → Int32 → Int32 → xH → Option (Unit × xH)} (hr46 : ∀  (a0 : Nat) (a3 : Nat) (a4 : Nat) (a5 : Int32) (a6 : Int32) (g : xH), S emV kX7_lay h0 46 [(0, .ref a0), (3, .ref a3), (4, .ref a4), (5, .int a5), (6, .int a6)] [] g (r46  a0 a3 a4 a5 a6 g)) (hr58 : ∀  (a0 : Nat) (a3 : Nat) (a4 : Nat) (a5 : Int32) (a6 : Int32) (a7 : Int32) (g : xH), S emV kX7_lay h0 58 [(0, .ref a0), (3, .ref a3), (4, .ref a4), (5, .int a5), (6, .int a6), (7, .int a7)] [] g (r58  a0 a3 a4 a5 a6 a7 g))  (a0 : Nat) (a3 : Nat) (a4 : Nat) (a5 : Int32) (a6 : Int32) (a7 : Int32) (h : xH) : S emV kX7_lay h0 58 [(0, .ref a0), (3, .ref a3), (4, .ref a4), (5, .int a5), (6, .int a6), (7, .int a7)] [] h (fX7_lay_b58 r46 r58 a0 a3 a4 a5 a6 a7 h) := by
  unfold fX7_lay_b58
  refine s_iload (pc := 58) (i := 7) 5 rfl (by decide +kernel) ?_
  refine s_iconst (pc := 60) (n := 4) (v := (4 : Int32)) (by decide) (by decide +kernel) ?_
  refine s_icmp_ge (pc := 61) (off := 37) 98 (by decide +kernel) (by decide) (fun _ => ?_) (fun _ => ?_)
  · refine s_aload (pc := 98) (i := 4) 2 rfl (by decide +kernel) ?_
    refine s_sipush (pc := 100) (n := 1600) (v := (1600 : Int32)) (by decide) (by decide +kernel) ?_
    refine s_iload (pc := 103) (i := 5) 3 rfl (by decide +kernel) ?_
    refine s_imul (pc := 105) (by decide +kernel) ?_
    refine s_iload (pc := 106) (i := 6) 4 rfl (by decide +kernel) ?_
    refine s_iadd (pc := 108) (by decide +kernel) ?_
    refine s_aload_n (pc := 109) (k0 := 0) (i := 0) rfl 0 rfl (by decide +kernel) ?_
    refine S_gd (fun c1 => ?_)
    refine s_getR (pc := 110) (k := 6) c1 ft_X7_22 rfl (by decide +kernel) ?_
    refine s_iload (pc := 113) (i := 6) 4 rfl (by decide +kernel) ?_
    refine S_gd (fun c2 => ?_)
    refine S_gd (fun c3 => ?_)
    refine s_zald (pc := 115) c2 c3 (by decide +kernel) ?_
    refine S_gd (fun c4 => ?_)
    refine S_gd (fun c5 => ?_)
    refine S_gd (fun c6 => ?_)
    refine s_zast (pc := 116) c4 c5 c6 (by decide +kernel) ?_
    refine s_nmH (o := h) rfl (fun g7 e8 => ?_)
    refine s_iinc (pc := 117) (L' := [(6, .int (a6 + (1 : Int32))), (0, .ref a0), (3, .ref a3), (4, .ref a4), (5, .int a5), (7, .int a7)]) (i := 6) (n := 1) 4 rfl rfl (by decide) rfl (by decide +kernel) ?_
    refine s_nmI0 (e := a6 + (1 : Int32)) (L := fun v9 => [(6, .int v9), (0, .ref a0), (3, .ref a3), (4, .ref a4), (5, .int a5), (7, .int a7)]) (fun v9 => ?_)
    refine s_goto (pc := 120) (off := -74) 46 (by decide +kernel) (by decide) ?_
    refine S_sub [1, 2, 3, 4, 0] rfl ?_
    exact hr46 a0 a3 a4 a5 v9 g7
  · refine s_aload_n (pc := 64) (k0 := 3) (i := 3) rfl 1 rfl (by decide +kernel) ?_
    refine s_iconst (pc := 65) (n := 4) (v := (4 : Int32)) (by decide) (by decide +kernel) ?_
    refine s_sipush (pc := 66) (n := 1600) (v := (1600 : Int32)) (by decide) (by decide +kernel) ?_
    refine s_iload (pc := 69) (i := 5) 3 rfl (by decide +kernel) ?_
    refine s_imul (pc := 71) (by decide +kernel) ?_
    refine s_iload (pc := 72) (i := 6) 4 rfl (by decide +kernel) ?_
    refine s_iadd (pc := 74) (by decide +kernel) ?_
    refine s_imul (pc := 75) (by decide +kernel) ?_
    refine s_iload (pc := 76) (i := 7) 5 rfl (by decide +kernel) ?_
    refine s_iadd (pc := 78) (by decide +kernel) ?_
    refine s_aload_n (pc := 79) (k0 := 0) (i := 0) rfl 0 rfl (by decide +kernel) ?_
    refine S_gd (fun c10 => ?_)
    refine s_getR (pc := 80) (k := 5) c10 ft_X7_18 rfl (by decide +kernel) ?_
    refine s_iconst (pc := 83) (n := 4) (v := (4 : Int32)) (by decide) (by decide +kernel) ?_
    refine s_iload (pc := 84) (i := 6) 4 rfl (by decide +kernel) ?_
    refine s_imul (pc := 86) (by decide +kernel) ?_
    refine s_iload (pc := 87) (i := 7) 5 rfl (by decide +kernel) ?_
    refine s_iadd (pc := 89) (by decide +kernel) ?_
    refine S_gd (fun c11 => ?_)
    refine S_gd (fun c12 => ?_)
    refine s_lald (pc := 90) c11 c12 (by decide +kernel) ?_
    refine S_gd (fun c13 => ?_)
    refine S_gd (fun c14 => ?_)
    refine s_last (pc := 91) c13 c14 (by decide +kernel) ?_
    refine s_nmH (o := h) rfl (fun g15 e16 => ?_)
    refine s_iinc (pc := 92) (L' := [(7, .int (a7 + (1 : Int32))), (0, .ref a0), (3, .ref a3), (4, .ref a4), (5, .int a5), (6, .int a6)]) (i := 7) (n := 1) 5 rfl rfl (by decide) rfl (by decide +kernel) ?_
    refine s_nmI0 (e := a7 + (1 : Int32)) (L := fun v17 => [(7, .int v17), (0, .ref a0), (3, .ref a3), (4, .ref a4), (5, .int a5), (6, .int a6)]) (fun v17 => ?_)
    refine s_goto (pc := 95) (off := -37) 58 (by decide +kernel) (by decide) ?_
    refine S_sub [1, 2, 3, 4, 5, 0] rfl ?_
    exact hr58 a0 a3 a4 a5 a6 v17 g15
theorem pX7_lay_l58 {h0 : xH} {r46 : Nat → Nat → Nat → Int32 → Int32 → xH → Option (Unit × xH)} (hr46 : ∀  (a0 : Nat) (a3 : Nat) (a4 : Nat) (a5 : Int32) (a6 : Int32) (g : xH), S emV kX7_lay h0 46 [(0, .ref a0), (3, .ref a3), (4, .ref a4), (5, .int a5), (6, .int a6)] [] g (r46  a0 a3 a4 a5 a6 g)) : ∀ (k : Nat)  (a0 : Nat) (a3 : Nat) (a4 : Nat) (a5 : Int32) (a6 : Int32) (a7 : Int32) (h : xH), S emV kX7_lay h0 58 [(0, .ref a0), (3, .ref a3), (4, .ref a4), (5, .int a5), (6, .int a6), (7, .int a7)] [] h (fX7_lay_l58 r46 k  a0 a3 a4 a5 a6 a7 h) := by
  intro k
  induction k with
  | zero => intros; exact S_none
  | succ k ih => intro  a0 a3 a4 a5 a6 a7 h; exact pX7_lay_b58 hr46 ih  a0 a3 a4 a5 a6 a7 h
theorem pX7_lay_b46 {h0 : xH} {r46 : Nat → Nat → Nat → Int32 → Int32 → xH → Option (Unit × xH)} (hr46 : ∀  (a0 : Nat) (a3 : Nat) (a4 : Nat) (a5 : Int32) (a6 : Int32) (g : xH), S emV kX7_lay h0 46 [(0, .ref a0), (3, .ref a3), (4, .ref a4), (5, .int a5), (6, .int a6)] [] g (r46  a0 a3 a4 a5 a6 g))  (a0 : Nat) (a3 : Nat) (a4 : Nat) (a5 : Int32) (a6 : Int32) (h : xH) : S emV kX7_lay h0 46 [(0, .ref a0), (3, .ref a3), (4, .ref a4), (5, .int a5), (6, .int a6)] [] h (fX7_lay_b46 r46 a0 a3 a4 a5 a6 h) := by
  unfold fX7_lay_b46
  refine s_iload (pc := 46) (i := 6) 4 rfl (by decide +kernel) ?_
  refine s_aload_n (pc := 48) (k0 := 0) (i := 0) rfl 0 rfl (by decide +kernel) ?_
  refine S_gd (fun c1 => ?_)
  refine s_getI (pc := 49) (k := 4) c1 ft_X7_125 rfl (by decide +kernel) ?_
  refine s_icmp_ge (pc := 52) (off := 71) 123 (by decide +kernel) (by decide) (fun _ => ?_) (fun _ => ?_)
  · exact s_vret (pc := 123) rfl (by decide +kernel)
  · refine s_iconst (pc := 55) (n := 0) (v := (0 : Int32)) (by decide) (by decide +kernel) ?_
    refine s_nmI (fun v2 => ?_)
    refine s_istore (pc := 56) (L' := [(7, .int v2), (0, .ref a0), (3, .ref a3), (4, .ref a4), (5, .int a5), (6, .int a6)]) (i := 7) (by decide) rfl (by decide +kernel) ?_
    refine S_sub [1, 2, 3, 4, 5, 0] rfl ?_
    exact pX7_lay_l58 hr46 FU a0 a3 a4 a5 a6 v2 h
theorem pX7_lay_l46 {h0 : xH}   : ∀ (k : Nat)  (a0 : Nat) (a3 : Nat) (a4 : Nat) (a5 : Int32) (a6 : Int32) (h : xH), S emV kX7_lay h0 46 [(0, .ref a0), (3, .ref a3), (4, .ref a4), (5, .int a5), (6, .int a6)] [] h (fX7_lay_l46  k  a0 a3 a4 a5 a6 h) := by
  intro k
  induction k with
  | zero => intros; exact S_none
  | succ k ih => intro  a0 a3 a4 a5 a6 h; exact pX7_lay_b46 ih  a0 a3 a4 a5 a6 h
theorem pX7_lay_b3 {h0 : xH} {r3 : Nat → Nat → Nat → Nat → Nat → Int32 → Int32 → xH → Option (Unit × xH)} (hr3 : ∀  (a0 : Nat) (a1 : Nat) (a2 : Nat) (a3 : Nat) (a4 : Nat) (a5 : Int32) (a6 : Int32) (g : xH), S emV kX7_lay h0 3 [(0, .ref a0), (1, .ref a1), (2, .ref a2), (3, .ref a3), (4, .ref a4), (5, .int a5), (6, .int a6)] [] g (r3  a0 a1 a2 a3 a4 a5 a6 g))  (a0 : Nat) (a1 : Nat) (a2 : Nat) (a3 : Nat) (a4 : Nat) (a5 : Int32) (a6 : Int32) (h : xH) : S emV kX7_lay h0 3 [(0, .ref a0), (1, .ref a1), (2, .ref a2), (3, .ref a3), (4, .ref a4), (5, .int a5), (6, .int a6)] [] h (fX7_lay_b3 r3 a0 a1 a2 a3 a4 a5 a6 h) := by
  unfold fX7_lay_b3
  refine s_iload (pc := 3) (i := 6) 6 rfl (by decide +kernel) ?_
  refine s_sipush (pc := 5) (n := 222) (v := (222 : Int32)) (by decide) (by decide +kernel) ?_
  refine s_icmp_ge (pc := 8) (off := 27) 35 (by decide +kernel) (by decide) (fun _ => ?_) (fun _ => ?_)
  · refine s_aload_n (pc := 35) (k0 := 2) (i := 2) rfl 2 rfl (by decide +kernel) ?_
    refine s_iload (pc := 36) (i := 5) 5 rfl (by decide +kernel) ?_
    refine s_aload_n (pc := 38) (k0 := 0) (i := 0) rfl 0 rfl (by decide +kernel) ?_
    refine S_gd (fun c1 => ?_)
    refine s_getI (pc := 39) (k := 4) c1 ft_X7_125 rfl (by decide +kernel) ?_
    refine S_gd (fun c2 => ?_)
    refine S_gd (fun c3 => ?_)
    refine s_iast (pc := 42) c2 c3 (by decide +kernel) ?_
    refine s_nmH (o := h) rfl (fun g4 e5 => ?_)
    refine s_iconst (pc := 43) (n := 0) (v := (0 : Int32)) (by decide) (by decide +kernel) ?_
    refine s_nmI (fun v6 => ?_)
    refine s_istore (pc := 44) (L' := [(6, .int v6), (0, .ref a0), (1, .ref a1), (2, .ref a2), (3, .ref a3), (4, .ref a4), (5, .int a5)]) (i := 6) (by decide) rfl (by decide +kernel) ?_
    refine S_sub [1, 4, 5, 6, 0] rfl ?_
    exact pX7_lay_l46 FU a0 a3 a4 a5 v6 g4
  · refine s_aload_n (pc := 11) (k0 := 1) (i := 1) rfl 1 rfl (by decide +kernel) ?_
    refine s_sipush (pc := 12) (n := 222) (v := (222 : Int32)) (by decide) (by decide +kernel) ?_
    refine s_iload (pc := 15) (i := 5) 5 rfl (by decide +kernel) ?_
    refine s_imul (pc := 17) (by decide +kernel) ?_
    refine s_iload (pc := 18) (i := 6) 6 rfl (by decide +kernel) ?_
    refine s_iadd (pc := 20) (by decide +kernel) ?_
    refine s_aload_n (pc := 21) (k0 := 0) (i := 0) rfl 0 rfl (by decide +kernel) ?_
    refine S_gd (fun c7 => ?_)
    refine s_getR (pc := 22) (k := 3) c7 ft_X7_15 rfl (by decide +kernel) ?_
    refine s_iload (pc := 25) (i := 6) 6 rfl (by decide +kernel) ?_
    refine S_gd (fun c8 => ?_)
    refine S_gd (fun c9 => ?_)
    refine s_iald (pc := 27) c8 c9 (by decide +kernel) ?_
    refine S_gd (fun c10 => ?_)
    refine S_gd (fun c11 => ?_)
    refine s_iast (pc := 28) c10 c11 (by decide +kernel) ?_
    refine s_nmH (o := h) rfl (fun g12 e13 => ?_)
    refine s_iinc (pc := 29) (L' := [(6, .int (a6 + (1 : Int32))), (0, .ref a0), (1, .ref a1), (2, .ref a2), (3, .ref a3), (4, .ref a4), (5, .int a5)]) (i := 6) (n := 1) 6 rfl rfl (by decide) rfl (by decide +kernel) ?_
    refine s_nmI0 (e := a6 + (1 : Int32)) (L := fun v14 => [(6, .int v14), (0, .ref a0), (1, .ref a1), (2, .ref a2), (3, .ref a3), (4, .ref a4), (5, .int a5)]) (fun v14 => ?_)
    refine s_goto (pc := 32) (off := -29) 3 (by decide +kernel) (by decide) ?_
    refine S_sub [1, 2, 3, 4, 5, 6, 0] rfl ?_
    exact hr3 a0 a1 a2 a3 a4 a5 v14 g12
theorem pX7_lay_l3 {h0 : xH}   : ∀ (k : Nat)  (a0 : Nat) (a1 : Nat) (a2 : Nat) (a3 : Nat) (a4 : Nat) (a5 : Int32) (a6 : Int32) (h : xH), S emV kX7_lay h0 3 [(0, .ref a0), (1, .ref a1), (2, .ref a2), (3, .ref a3), (4, .ref a4), (5, .int a5), (6, .int a6)] [] h (fX7_lay_l3  k  a0 a1 a2 a3 a4 a5 a6 h) := by
  intro k
  induction k with
  | zero => intros; exact S_none
  | succ k ih => intro  a0 a1 a2 a3 a4 a5 a6 h; exact pX7_lay_b3 ih  a0 a1 a2 a3 a4 a5 a6 h
theorem pX7_lay_e    (a0 : Nat) (a1 : Nat) (a2 : Nat) (a3 : Nat) (a4 : Nat) (a5 : Int32) (h : xH) : S emV kX7_lay h 0 [(0, .ref a0), (1, .ref a1), (2, .ref a2), (3, .ref a3), (4, .ref a4), (5, .int a5)] [] h (fX7_lay  a0 a1 a2 a3 a4 a5 h) := by
  unfold fX7_lay
  refine s_iconst (pc := 0) (n := 0) (v := (0 : Int32)) (by decide) (by decide +kernel) ?_
  refine s_nmI (fun v1 => ?_)
  refine s_istore (pc := 1) (L' := [(6, .int v1), (0, .ref a0), (1, .ref a1), (2, .ref a2), (3, .ref a3), (4, .ref a4), (5, .int a5)]) (i := 6) (by decide) rfl (by decide +kernel) ?_
  refine S_sub [1, 2, 3, 4, 5, 6, 0] rfl ?_
  exact pX7_lay_l3 FU a0 a1 a2 a3 a4 a5 v1 h
theorem tX7_lay (a0 : Nat) (a1 : Nat) (a2 : Nat) (a3 : Nat) (a4 : Nat) (a5 : Int32) (h : xH) : Ct yX7_lay kX7_lay emV [.ref a0, .ref a1, .ref a2, .ref a3, .ref a4, .int a5] h (fX7_lay a0 a1 a2 a3 a4 a5 h) := Ct_of (by decide +kernel) rfl rfl rfl (Nat.le_of_ble_eq_true rfl) rfl (pX7_lay_e a0 a1 a2 a3 a4 a5 h)
def fX7_remember_b45   (a0 : Nat) (a1 : Int32) (a2 : Int32) (h : xH) : Option (Unit × xH) :=
  if kc h a0 = 7 then
  bd (fX7_lay a0 (hR h a0 7) (hR h a0 8) (hR h a0 9) (hR h a0 10) a2 h) (fun _ g2 =>
  if kc g2 (hR g2 a0 11) = 8 then
  if ix a2 (kl g2 (hR g2 a0 11)) then
  lt (sI g2 (hR g2 a0 11) a2.toNatClampNeg a1) (fun g7 =>
  lt (sI g7 a0 12 ((hI g7 a0 12) + (1 : Int32))) (fun g10 =>
  some ((), g10)))
  else none
  else none)
  else none
def fX7_remember   (a0 : Nat) (a1 : Int32) (h : xH) : Option (Unit × xH) :=
  if kc h a0 = 7 then
  if ¬ (8 : Int32) = 0 then
  lt (((hI h a0 18) + (hI h a0 12)) - ((hI h a0 18) + (hI h a0 12)) / (8 : Int32) * (8 : Int32)) (fun v2 =>
  if (hI h a0 12) = (8 : Int32) then (
  if ¬ (8 : Int32) = 0 then
  lt (sI h a0 18 (((hI h a0 18) + (1 : Int32)) - ((hI h a0 18) + (1 : Int32)) / (8 : Int32) * (8 : Int32))) (fun g3 =>
  lt (sI g3 a0 12 ((hI g3 a0 12) - (1 : Int32))) (fun g6 =>
  fX7_remember_b45 a0 a1 v2 g6))
  else none)
  else (
  fX7_remember_b45 a0 a1 v2 h))
  else none
  else none
theorem pX7_remember_b45 {h0 : xH}    (a0 : Nat) (a1 : Int32) (a2 : Int32) (h : xH) : S emV kX7_remember h0 45 [(0, .ref a0), (1, .int a1), (2, .int a2)] [] h (fX7_remember_b45  a0 a1 a2 h) := by
  unfold fX7_remember_b45
  refine s_aload_n (pc := 45) (k0 := 0) (i := 0) rfl 0 rfl (by decide +kernel) ?_
  refine s_aload_n (pc := 46) (k0 := 0) (i := 0) rfl 0 rfl (by decide +kernel) ?_
  refine S_gd (fun c1 => ?_)
  refine s_getR (pc := 47) (k := 7) c1 ft_X7_26 rfl (by decide +kernel) ?_
  refine s_aload_n (pc := 50) (k0 := 0) (i := 0) rfl 0 rfl (by decide +kernel) ?_
  refine s_getR (pc := 51) (k := 8) c1 ft_X7_29 rfl (by decide +kernel) ?_
  refine s_aload_n (pc := 54) (k0 := 0) (i := 0) rfl 0 rfl (by decide +kernel) ?_
  refine s_getR (pc := 55) (k := 9) c1 ft_X7_33 rfl (by decide +kernel) ?_
  refine s_aload_n (pc := 58) (k0 := 0) (i := 0) rfl 0 rfl (by decide +kernel) ?_
  refine s_getR (pc := 59) (k := 10) c1 ft_X7_36 rfl (by decide +kernel) ?_
  refine s_iload_n (pc := 62) (k0 := 2) (i := 2) rfl 2 rfl (by decide +kernel) ?_
  refine s_cVv (pc := 63) [.ref (hR h a0 7), .ref (hR h a0 8), .ref (hR h a0 9), .ref (hR h a0 10), .int a2] (tX7_lay a0 (hR h a0 7) (hR h a0 8) (hR h a0 9) (hR h a0 10) a2 h) c1 cw_X7_134 rfl ⟨⟨Nat.le_of_ble_eq_true rfl, Nat.le_of_ble_eq_true rfl⟩, Nat.le_of_ble_eq_true rfl⟩ rfl (by decide +kernel) (fun _ g2 e3 => ?_)
  refine s_aload_n (pc := 66) (k0 := 0) (i := 0) rfl 0 rfl (by decide +kernel) ?_
  have c4 := kp e3 c1 (by decide)
  refine s_getR (pc := 67) (k := 11) c4 ft_X7_39 rfl (by decide +kernel) ?_
  refine s_iload_n (pc := 70) (k0 := 2) (i := 2) rfl 2 rfl (by decide +kernel) ?_
  refine s_iload_n (pc := 71) (k0 := 1) (i := 1) rfl 1 rfl (by decide +kernel) ?_
  refine S_gd (fun c5 => ?_)
  refine S_gd (fun c6 => ?_)
  refine s_iast (pc := 72) c5 c6 (by decide +kernel) ?_
  refine s_nmH (o := g2) rfl (fun g7 e8 => ?_)
  refine s_aload_n (pc := 73) (k0 := 0) (i := 0) rfl 0 rfl (by decide +kernel) ?_
  refine s_dup_a (pc := 74) (by decide +kernel) ?_
  have c9 := kp e8 c4 (by decide)
  refine s_getI (pc := 75) (k := 12) c9 ft_X7_131 rfl (by decide +kernel) ?_
  refine s_iconst (pc := 78) (n := 1) (v := (1 : Int32)) (by decide) (by decide +kernel) ?_
  refine s_iadd (pc := 79) (by decide +kernel) ?_
  refine s_putI (pc := 80) (k := 12) c9 ft_X7_131 (fw_7_12 _ _) rfl rfl (by decide +kernel) ?_
  refine s_nmH (o := g7) rfl (fun g10 e11 => ?_)
  exact s_vret (pc := 83) rfl (by decide +kernel)
theorem pX7_remember_e    (a0 : Nat) (a1 : Int32) (h : xH) : S emV kX7_remember h 0 [(0, .ref a0), (1, .int a1)] [] h (fX7_remember  a0 a1 h) := by
  unfold fX7_remember
  refine s_aload_n (pc := 0) (k0 := 0) (i := 0) rfl 0 rfl (by decide +kernel) ?_
  refine S_gd (fun c1 => ?_)
  refine s_getI (pc := 1) (k := 18) c1 ft_X7_128 rfl (by decide +kernel) ?_
  refine s_aload_n (pc := 4) (k0 := 0) (i := 0) rfl 0 rfl (by decide +kernel) ?_
  refine s_getI (pc := 5) (k := 12) c1 ft_X7_131 rfl (by decide +kernel) ?_
  refine s_iadd (pc := 8) (by decide +kernel) ?_
  refine s_bipush (pc := 9) (n := 8) (v := (8 : Int32)) (by decide) (by decide +kernel) ?_
  refine s_irem (pc := 11) (by decide +kernel) ?_
  refine s_nmI (fun v2 => ?_)
  refine s_istore_n (pc := 12) (L' := [(2, .int v2), (0, .ref a0), (1, .int a1)]) (k0 := 2) (i := 2) rfl (by decide) rfl (by decide +kernel) ?_
  refine s_aload_n (pc := 13) (k0 := 0) (i := 0) rfl 1 rfl (by decide +kernel) ?_
  refine s_getI (pc := 14) (k := 12) c1 ft_X7_131 rfl (by decide +kernel) ?_
  refine s_bipush (pc := 17) (n := 8) (v := (8 : Int32)) (by decide) (by decide +kernel) ?_
  refine s_icmp_ne (pc := 19) (off := 26) 45 (by decide +kernel) (by decide) (fun _ => ?_) (fun _ => ?_)
  · refine s_aload_n (pc := 22) (k0 := 0) (i := 0) rfl 1 rfl (by decide +kernel) ?_
    refine s_aload_n (pc := 23) (k0 := 0) (i := 0) rfl 1 rfl (by decide +kernel) ?_
    refine s_getI (pc := 24) (k := 18) c1 ft_X7_128 rfl (by decide +kernel) ?_
    refine s_iconst (pc := 27) (n := 1) (v := (1 : Int32)) (by decide) (by decide +kernel) ?_
    refine s_iadd (pc := 28) (by decide +kernel) ?_
    refine s_bipush (pc := 29) (n := 8) (v := (8 : Int32)) (by decide) (by decide +kernel) ?_
    refine s_irem (pc := 31) (by decide +kernel) ?_
    refine s_putI (pc := 32) (k := 18) c1 ft_X7_128 (fw_7_18 _ _) rfl rfl (by decide +kernel) ?_
    refine s_nmH (o := h) rfl (fun g3 e4 => ?_)
    refine s_aload_n (pc := 35) (k0 := 0) (i := 0) rfl 1 rfl (by decide +kernel) ?_
    refine s_dup_a (pc := 36) (by decide +kernel) ?_
    have c5 := kp e4 c1 (by decide)
    refine s_getI (pc := 37) (k := 12) c5 ft_X7_131 rfl (by decide +kernel) ?_
    refine s_iconst (pc := 40) (n := 1) (v := (1 : Int32)) (by decide) (by decide +kernel) ?_
    refine s_isub (pc := 41) (by decide +kernel) ?_
    refine s_putI (pc := 42) (k := 12) c5 ft_X7_131 (fw_7_12 _ _) rfl rfl (by decide +kernel) ?_
    refine s_nmH (o := g3) rfl (fun g6 e7 => ?_)
    refine S_sub [1, 2, 0] rfl ?_
    exact pX7_remember_b45 a0 a1 v2 g6
  · refine S_sub [1, 2, 0] rfl ?_
    exact pX7_remember_b45 a0 a1 v2 h
theorem tX7_remember (a0 : Nat) (a1 : Int32) (h : xH) : Ct yX7_remember kX7_remember emV [.ref a0, .int a1] h (fX7_remember a0 a1 h) := Ct_of (by decide +kernel) rfl rfl rfl (Nat.le_of_ble_eq_true rfl) rfl (pX7_remember_e a0 a1 h)
def fX7_line   (a0 : Nat) (a1 : Int32) (a2 : Int32) (a3 : Int64) (a5 : Int64) (a7 : Int64) (h : xH) : Option (Unit × xH) :=
  if kc h a0 = 7 then
  if kc h (hR h a0 20) = 8 then
  if ix (hI h a0 19) (kl h (hR h a0 20)) then
  lt (sI h (hR h a0 20) (hI h a0 19).toNatClampNeg a1) (fun g4 =>
  if kc g4 (hR g4 a0 21) = 8 then
  if ix (hI g4 a0 19) (kl g4 (hR g4 a0 21)) then
  lt (sI g4 (hR g4 a0 21) (hI g4 a0 19).toNatClampNeg a2) (fun g9 =>
  if kc g9 (hR g9 a0 22) = 9 then
  if ix (hI g9 a0 19) (kl g9 (hR g9 a0 22)) then
  lt (sJ g9 (hR g9 a0 22) (hI g9 a0 19).toNatClampNeg a3) (fun g14 =>
  if kc g14 (hR g14 a0 23) = 9 then
  if ix (hI g14 a0 19) (kl g14 (hR g14 a0 23)) then
  lt (sJ g14 (hR g14 a0 23) (hI g14 a0 19).toNatClampNeg a5) (fun g19 =>
  if kc g19 (hR g19 a0 24) = 9 then
  if ix (hI g19 a0 19) (kl g19 (hR g19 a0 24)) then
  lt (sJ g19 (hR g19 a0 24) (hI g19 a0 19).toNatClampNeg a7) (fun g24 =>
  lt (sI g24 a0 19 ((hI g24 a0 19) + (1 : Int32))) (fun g27 =>
  some ((), g27)))
  else none
  else none)
  else none
  else none)
  else none
  else none)
  else none
  else none)
  else none
  else none
  else none
theorem pX7_line_e    (a0 : Nat) (a1 : Int32) (a2 : Int32) (a3 : Int64) (a5 : Int64) (a7 : Int64) (h : xH) : S emV kX7_line h 0 [(0, .ref a0), (1, .int a1), (2, .int a2), (3, .long a3), (5, .long a5), (7, .long a7)] [] h (fX7_line  a0 a1 a2 a3 a5 a7 h) := by
  unfold fX7_line
  refine s_aload_n (pc := 0) (k0 := 0) (i := 0) rfl 0 rfl (by decide +kernel) ?_
  refine S_gd (fun c1 => ?_)
  refine s_getR (pc := 1) (k := 20) c1 ft_X7_57 rfl (by decide +kernel) ?_
  refine s_aload_n (pc := 4) (k0 := 0) (i := 0) rfl 0 rfl (by decide +kernel) ?_
  refine s_getI (pc := 5) (k := 19) c1 ft_X7_158 rfl (by decide +kernel) ?_
  refine s_iload_n (pc := 8) (k0 := 1) (i := 1) rfl 1 rfl (by decide +kernel) ?_
  refine S_gd (fun c2 => ?_)
  refine S_gd (fun c3 => ?_)
  refine s_iast (pc := 9) c2 c3 (by decide +kernel) ?_
  refine s_nmH (o := h) rfl (fun g4 e5 => ?_)
  refine s_aload_n (pc := 10) (k0 := 0) (i := 0) rfl 0 rfl (by decide +kernel) ?_
  have c6 := kp e5 c1 (by decide)
  refine s_getR (pc := 11) (k := 21) c6 ft_X7_60 rfl (by decide +kernel) ?_
  refine s_aload_n (pc := 14) (k0 := 0) (i := 0) rfl 0 rfl (by decide +kernel) ?_
  refine s_getI (pc := 15) (k := 19) c6 ft_X7_158 rfl (by decide +kernel) ?_
  refine s_iload_n (pc := 18) (k0 := 2) (i := 2) rfl 2 rfl (by decide +kernel) ?_
  refine S_gd (fun c7 => ?_)
  refine S_gd (fun c8 => ?_)
  refine s_iast (pc := 19) c7 c8 (by decide +kernel) ?_
  refine s_nmH (o := g4) rfl (fun g9 e10 => ?_)
  refine s_aload_n (pc := 20) (k0 := 0) (i := 0) rfl 0 rfl (by decide +kernel) ?_
  have c11 := kp e10 c6 (by decide)
  refine s_getR (pc := 21) (k := 22) c11 ft_X7_63 rfl (by decide +kernel) ?_
  refine s_aload_n (pc := 24) (k0 := 0) (i := 0) rfl 0 rfl (by decide +kernel) ?_
  refine s_getI (pc := 25) (k := 19) c11 ft_X7_158 rfl (by decide +kernel) ?_
  refine s_lload_n (pc := 28) (k0 := 3) (i := 3) rfl 3 rfl (by decide +kernel) ?_
  refine S_gd (fun c12 => ?_)
  refine S_gd (fun c13 => ?_)
  refine s_last (pc := 29) c12 c13 (by decide +kernel) ?_
  refine s_nmH (o := g9) rfl (fun g14 e15 => ?_)
  refine s_aload_n (pc := 30) (k0 := 0) (i := 0) rfl 0 rfl (by decide +kernel) ?_
  have c16 := kp e15 c11 (by decide)
  refine s_getR (pc := 31) (k := 23) c16 ft_X7_66 rfl (by decide +kernel) ?_
  refine s_aload_n (pc := 34) (k0 := 0) (i := 0) rfl 0 rfl (by decide +kernel) ?_
  refine s_getI (pc := 35) (k := 19) c16 ft_X7_158 rfl (by decide +kernel) ?_
  refine s_lload (pc := 38) (i := 5) 4 rfl (by decide +kernel) ?_
  refine S_gd (fun c17 => ?_)
  refine S_gd (fun c18 => ?_)
  refine s_last (pc := 40) c17 c18 (by decide +kernel) ?_
  refine s_nmH (o := g14) rfl (fun g19 e20 => ?_)
  refine s_aload_n (pc := 41) (k0 := 0) (i := 0) rfl 0 rfl (by decide +kernel) ?_
  have c21 := kp e20 c16 (by decide)
  refine s_getR (pc := 42) (k := 24) c21 ft_X7_69 rfl (by decide +kernel) ?_
  refine s_aload_n (pc := 45) (k0 := 0) (i := 0) rfl 0 rfl (by decide +kernel) ?_
  refine s_getI (pc := 46) (k := 19) c21 ft_X7_158 rfl (by decide +kernel) ?_
  refine s_lload (pc := 49) (i := 7) 5 rfl (by decide +kernel) ?_
  refine S_gd (fun c22 => ?_)
  refine S_gd (fun c23 => ?_)
  refine s_last (pc := 51) c22 c23 (by decide +kernel) ?_
  refine s_nmH (o := g19) rfl (fun g24 e25 => ?_)
  refine s_aload_n (pc := 52) (k0 := 0) (i := 0) rfl 0 rfl (by decide +kernel) ?_
  refine s_dup_a (pc := 53) (by decide +kernel) ?_
  have c26 := kp e25 c21 (by decide)
  refine s_getI (pc := 54) (k := 19) c26 ft_X7_158 rfl (by decide +kernel) ?_
  refine s_iconst (pc := 57) (n := 1) (v := (1 : Int32)) (by decide) (by decide +kernel) ?_
  refine s_iadd (pc := 58) (by decide +kernel) ?_
  refine s_putI (pc := 59) (k := 19) c26 ft_X7_158 (fw_7_19 _ _) rfl rfl (by decide +kernel) ?_
  refine s_nmH (o := g24) rfl (fun g27 e28 => ?_)
  exact s_vret (pc := 62) rfl (by decide +kernel)
theorem tX7_line (a0 : Nat) (a1 : Int32) (a2 : Int32) (a3 : Int64) (a5 : Int64) (a7 : Int64) (h : xH) : Ct yX7_line kX7_line emV [.ref a0, .int a1, .int a2, .long a3, .long a5, .long a7] h (fX7_line a0 a1 a2 a3 a5 a7 h) := Ct_of (by decide +kernel) rfl rfl rfl (Nat.le_of_ble_eq_true rfl) rfl (pX7_line_e a0 a1 a2 a3 a5 a7 h)
def fX7_lineBy   (a0 : Nat) (a1 : Int64) (a3 : Int64) (a5 : Int64) (a7 : Int64) (h : xH) : Option (Unit × xH) :=
  if (lg_cmp a1 a5) = 0 then (
  if kc h a0 = 7 then
  bd (fX7_line a0 a1.toInt32 a5.toInt32 a3 (0 : Int64) (1 : Int64) h) (fun _ g5 =>
  some ((), g5))
  else none)
  else (
  if kc h a0 = 7 then
  bd (fX7_line a0 a1.toInt32 a5.toInt32 ((a3 * (a5 - a1)) - ((a7 - a3) * a1)) (a7 - a3) (a5 - a1) h) (fun _ g2 =>
  some ((), g2))
  else none)
theorem pX7_lineBy_e    (a0 : Nat) (a1 : Int64) (a3 : Int64) (a5 : Int64) (a7 : Int64) (h : xH) : S emV kX7_lineBy h 0 [(0, .ref a0), (1, .long a1), (3, .long a3), (5, .long a5), (7, .long a7)] [] h (fX7_lineBy  a0 a1 a3 a5 a7 h) := by
  unfold fX7_lineBy
  refine s_lload_n (pc := 0) (k0 := 1) (i := 1) rfl 1 rfl (by decide +kernel) ?_
  refine s_lload (pc := 1) (i := 5) 3 rfl (by decide +kernel) ?_
  refine s_lcmp (pc := 3) (by decide +kernel) ?_
  refine s_if_ne (pc := 4) (off := 18) 22 (by decide +kernel) (by decide) (fun _ => ?_) (fun _ => ?_)
  · refine s_aload_n (pc := 7) (k0 := 0) (i := 0) rfl 0 rfl (by decide +kernel) ?_
    refine s_lload_n (pc := 8) (k0 := 1) (i := 1) rfl 1 rfl (by decide +kernel) ?_
    refine s_l2i (pc := 9) (by decide +kernel) ?_
    refine s_lload (pc := 10) (i := 5) 3 rfl (by decide +kernel) ?_
    refine s_l2i (pc := 12) (by decide +kernel) ?_
    refine s_lload_n (pc := 13) (k0 := 3) (i := 3) rfl 2 rfl (by decide +kernel) ?_
    refine s_lconst (pc := 14) (n := 0) (v := (0 : Int64)) (by decide) (by decide +kernel) ?_
    refine s_lconst (pc := 15) (n := 1) (v := (1 : Int64)) (by decide) (by decide +kernel) ?_
    refine S_gd (fun c4 => ?_)
    refine s_cVv (pc := 16) [.int a1.toInt32, .int a5.toInt32, .long a3, .long (0 : Int64), .long (1 : Int64)] (tX7_line a0 a1.toInt32 a5.toInt32 a3 (0 : Int64) (1 : Int64) h) c4 cw_X7_161 rfl ⟨⟨Nat.le_of_ble_eq_true rfl, Nat.le_of_ble_eq_true rfl⟩, Nat.le_of_ble_eq_true rfl⟩ rfl (by decide +kernel) (fun _ g5 e6 => ?_)
    refine s_goto (pc := 19) (off := 33) 52 (by decide +kernel) (by decide) ?_
    exact s_vret (pc := 52) rfl (by decide +kernel)
  · refine s_aload_n (pc := 22) (k0 := 0) (i := 0) rfl 0 rfl (by decide +kernel) ?_
    refine s_lload_n (pc := 23) (k0 := 1) (i := 1) rfl 1 rfl (by decide +kernel) ?_
    refine s_l2i (pc := 24) (by decide +kernel) ?_
    refine s_lload (pc := 25) (i := 5) 3 rfl (by decide +kernel) ?_
    refine s_l2i (pc := 27) (by decide +kernel) ?_
    refine s_lload_n (pc := 28) (k0 := 3) (i := 3) rfl 2 rfl (by decide +kernel) ?_
    refine s_lload (pc := 29) (i := 5) 3 rfl (by decide +kernel) ?_
    refine s_lload_n (pc := 31) (k0 := 1) (i := 1) rfl 1 rfl (by decide +kernel) ?_
    refine s_lsub (pc := 32) (by decide +kernel) ?_
    refine s_lmul (pc := 33) (by decide +kernel) ?_
    refine s_lload (pc := 34) (i := 7) 4 rfl (by decide +kernel) ?_
    refine s_lload_n (pc := 36) (k0 := 3) (i := 3) rfl 2 rfl (by decide +kernel) ?_
    refine s_lsub (pc := 37) (by decide +kernel) ?_
    refine s_lload_n (pc := 38) (k0 := 1) (i := 1) rfl 1 rfl (by decide +kernel) ?_
    refine s_lmul (pc := 39) (by decide +kernel) ?_
    refine s_lsub (pc := 40) (by decide +kernel) ?_
    refine s_lload (pc := 41) (i := 7) 4 rfl (by decide +kernel) ?_
    refine s_lload_n (pc := 43) (k0 := 3) (i := 3) rfl 2 rfl (by decide +kernel) ?_
    refine s_lsub (pc := 44) (by decide +kernel) ?_
    refine s_lload (pc := 45) (i := 5) 3 rfl (by decide +kernel) ?_
    refine s_lload_n (pc := 47) (k0 := 1) (i := 1) rfl 1 rfl (by decide +kernel) ?_
    refine s_lsub (pc := 48) (by decide +kernel) ?_
    refine S_gd (fun c1 => ?_)
    refine s_cVv (pc := 49) [.int a1.toInt32, .int a5.toInt32, .long ((a3 * (a5 - a1)) - ((a7 - a3) * a1)), .long (a7 - a3), .long (a5 - a1)] (tX7_line a0 a1.toInt32 a5.toInt32 ((a3 * (a5 - a1)) - ((a7 - a3) * a1)) (a7 - a3) (a5 - a1) h) c1 cw_X7_161 rfl ⟨⟨Nat.le_of_ble_eq_true rfl, Nat.le_of_ble_eq_true rfl⟩, Nat.le_of_ble_eq_true rfl⟩ rfl (by decide +kernel) (fun _ g2 e3 => ?_)
    exact s_vret (pc := 52) rfl (by decide +kernel)
theorem tX7_lineBy (a0 : Nat) (a1 : Int64) (a3 : Int64) (a5 : Int64) (a7 : Int64) (h : xH) : Ct yX7_lineBy kX7_lineBy emV [.ref a0, .long a1, .long a3, .long a5, .long a7] h (fX7_lineBy a0 a1 a3 a5 a7 h) := Ct_of (by decide +kernel) rfl rfl rfl (Nat.le_of_ble_eq_true rfl) rfl (pX7_lineBy_e a0 a1 a3 a5 a7 h)
def fX7_down   (a0 : Int64) (a2 : Int64) (h : xH) : Option (Int64 × xH) :=
  if ¬ a2 = 0 then
  lt (a0 / a2) (fun v1 =>
  if ¬ a2 = 0 then
  if 0 ≤ (lg_cmp (a0 - a0 / a2 * a2) (0 : Int64)) then (
  some (v1, h))
  else (
  some ((v1 - (1 : Int64)), h))
  else none)
  else none
theorem pX7_down_e    (a0 : Int64) (a2 : Int64) (h : xH) : S emJ kX7_down h 0 [(0, .long a0), (2, .long a2)] [] h (fX7_down  a0 a2 h) := by
  unfold fX7_down
  refine s_lload_n (pc := 0) (k0 := 0) (i := 0) rfl 0 rfl (by decide +kernel) ?_
  refine s_lload_n (pc := 1) (k0 := 2) (i := 2) rfl 1 rfl (by decide +kernel) ?_
  refine s_ldiv (pc := 2) (by decide +kernel) ?_
  refine s_nmJ (fun v1 => ?_)
  refine s_lstore (pc := 3) (L' := [(4, .long v1), (0, .long a0), (2, .long a2)]) (i := 4) (by decide) rfl (by decide +kernel) ?_
  refine s_lload_n (pc := 5) (k0 := 0) (i := 0) rfl 1 rfl (by decide +kernel) ?_
  refine s_lload_n (pc := 6) (k0 := 2) (i := 2) rfl 2 rfl (by decide +kernel) ?_
  refine s_lrem (pc := 7) (by decide +kernel) ?_
  refine s_lconst (pc := 8) (n := 0) (v := (0 : Int64)) (by decide) (by decide +kernel) ?_
  refine s_lcmp (pc := 9) (by decide +kernel) ?_
  refine s_if_ge (pc := 10) (off := 10) 20 (by decide +kernel) (by decide) (fun _ => ?_) (fun _ => ?_)
  · refine s_lload (pc := 20) (i := 4) 0 rfl (by decide +kernel) ?_
    exact s_lret (pc := 22) rfl (by decide +kernel)
  · refine s_lload (pc := 13) (i := 4) 0 rfl (by decide +kernel) ?_
    refine s_lconst (pc := 15) (n := 1) (v := (1 : Int64)) (by decide) (by decide +kernel) ?_
    refine s_lsub (pc := 16) (by decide +kernel) ?_
    refine s_goto (pc := 17) (off := 5) 22 (by decide +kernel) (by decide) ?_
    exact s_lret (pc := 22) rfl (by decide +kernel)
theorem tX7_down (a0 : Int64) (a2 : Int64) (h : xH) : Ct yX7_down kX7_down emJ [.long a0, .long a2] h (fX7_down a0 a2 h) := Ct_of (by decide +kernel) rfl rfl rfl (Nat.le_of_ble_eq_true rfl) rfl (pX7_down_e a0 a2 h)
def fX7_lie_b94   (a16 : Int32) (a21 : Int64) (a23 : Int64) (h : xH) : Option (Int32 × xH) :=
  if (lg_cmp a21 a23) = 0 then (
  some ((0 : Int32), h))
  else (
  if (lg_cmp a21 (0 : Int64)) = 0 then (
  some ((-a16), h))
  else (
  some (a16, h)))
def fX7_lie_b17 (r17 : Int64 → Int64 → Int64 → Int64 → Int32 → xH → Option (Int32 × xH))  (a8 : Int64) (a10 : Int64) (a12 : Int64) (a14 : Int64) (a16 : Int32) (h : xH) : Option (Int32 × xH) :=
  bd (fX7_down a8 a10 h) (fun w3 g1 =>
  bd (fX7_down a12 a14 g1) (fun w6 g4 =>
  if (lg_cmp w3 w6) = 0 then (
  lt (a8 - (w3 * a10)) (fun v7 =>
  lt (a12 - (w6 * a14)) (fun v8 =>
  if (lg_cmp v7 (0 : Int64)) = 0 then (
  fX7_lie_b94 a16 v7 v8 g4)
  else (
  if (lg_cmp v8 (0 : Int64)) = 0 then (
  fX7_lie_b94 a16 v7 v8 g4)
  else (
  lt (-a16) (fun v9 =>
  r17 a10 v7 a14 v8 v9 g4))))))
  else (
  if 0 ≤ (lg_cmp w3 w6) then (
  some (a16, g4))
  else (
  some ((-a16), g4)))))
def fX7_lie_l17  : Nat → Int64 → Int64 → Int64 → Int64 → Int32 → xH → Option (Int32 × xH)
  | 0 => fun _ _ _ _ _ _ => none
  | k + 1 => fX7_lie_b17 (fX7_lie_l17  k)
def fX7_lie   (a0 : Int64) (a2 : Int64) (a4 : Int64) (a6 : Int64) (h : xH) : Option (Int32 × xH) :=
  lt (1 : Int32) (fun v1 =>
  fX7_lie_l17 FU a0 a2 a4 a6 v1 h)
theorem pX7_lie_b94 {h0 : xH}    (a16 : Int32) (a21 : Int64) (a23 : Int64) (h : xH) : S emI kX7_lie h0 94 [(16, .int a16), (21, .long a21), (23, .long a23)] [] h (fX7_lie_b94  a16 a21 a23 h) := by
  unfold fX7_lie_b94
  refine s_lload (pc := 94) (i := 21) 1 rfl (by decide +kernel) ?_
  refine s_lload (pc := 96) (i := 23) 2 rfl (by decide +kernel) ?_
  refine s_lcmp (pc := 98) (by decide +kernel) ?_
  refine s_if_ne (pc := 99) (off := 7) 106 (by decide +kernel) (by decide) (fun _ => ?_) (fun _ => ?_)
  · refine s_iconst (pc := 102) (n := 0) (v := (0 : Int32)) (by decide) (by decide +kernel) ?_
    refine s_goto (pc := 103) (off := 18) 121 (by decide +kernel) (by decide) ?_
    exact s_iret (pc := 121) rfl (by decide +kernel)
  · refine s_lload (pc := 106) (i := 21) 1 rfl (by decide +kernel) ?_
    refine s_lconst (pc := 108) (n := 0) (v := (0 : Int64)) (by decide) (by decide +kernel) ?_
    refine s_lcmp (pc := 109) (by decide +kernel) ?_
    refine s_if_ne (pc := 110) (off := 9) 119 (by decide +kernel) (by decide) (fun _ => ?_) (fun _ => ?_)
    · refine s_iload (pc := 113) (i := 16) 0 rfl (by decide +kernel) ?_
      refine s_ineg (pc := 115) (by decide +kernel) ?_
      refine s_goto (pc := 116) (off := 5) 121 (by decide +kernel) (by decide) ?_
      exact s_iret (pc := 121) rfl (by decide +kernel)
    · refine s_iload (pc := 119) (i := 16) 0 rfl (by decide +kernel) ?_
      exact s_iret (pc := 121) rfl (by decide +kernel)
theorem pX7_lie_b17 {h0 : xH} {r17 : Int64 → Int64 → Int64 → Int64 → Int32 → xH → Option (Int32 × xH)} (hr17 : ∀  (a8 : Int64) (a10 : Int64) (a12 : Int64) (a14 : Int64) (a16 : Int32) (g : xH), S emI kX7_lie h0 17 [(8, .long a8), (10, .long a10), (12, .long a12), (14, .long a14), (16, .int a16)] [] g (r17  a8 a10 a12 a14 a16 g))  (a8 : Int64) (a10 : Int64) (a12 : Int64) (a14 : Int64) (a16 : Int32) (h : xH) : S emI kX7_lie h0 17 [(8, .long a8), (10, .long a10), (12, .long a12), (14, .long a14), (16, .int a16)] [] h (fX7_lie_b17 r17 a8 a10 a12 a14 a16 h) := by
  unfold fX7_lie_b17
  refine s_lload (pc := 17) (i := 8) 0 rfl (by decide +kernel) ?_
  refine s_lload (pc := 19) (i := 10) 1 rfl (by decide +kernel) ?_
  refine s_cSj (pc := 21) [.long a8, .long a10] (tX7_down a8 a10 h) cw_X7_118 rfl ⟨⟨Nat.le_of_ble_eq_true rfl, Nat.le_of_ble_eq_true rfl⟩, Nat.le_of_ble_eq_true rfl⟩ rfl (by decide +kernel) (fun w3 g1 e2 => ?_)
  refine s_lstore (pc := 24) (L' := [(17, .long w3), (8, .long a8), (10, .long a10), (12, .long a12), (14, .long a14), (16, .int a16)]) (i := 17) (by decide) rfl (by decide +kernel) ?_
  refine s_lload (pc := 26) (i := 12) 3 rfl (by decide +kernel) ?_
  refine s_lload (pc := 28) (i := 14) 4 rfl (by decide +kernel) ?_
  refine s_cSj (pc := 30) [.long a12, .long a14] (tX7_down a12 a14 g1) cw_X7_118 rfl ⟨⟨Nat.le_of_ble_eq_true rfl, Nat.le_of_ble_eq_true rfl⟩, Nat.le_of_ble_eq_true rfl⟩ rfl (by decide +kernel) (fun w6 g4 e5 => ?_)
  refine s_lstore (pc := 33) (L' := [(19, .long w6), (17, .long w3), (8, .long a8), (10, .long a10), (12, .long a12), (14, .long a14), (16, .int a16)]) (i := 19) (by decide) rfl (by decide +kernel) ?_
  refine s_lload (pc := 35) (i := 17) 1 rfl (by decide +kernel) ?_
  refine s_lload (pc := 37) (i := 19) 0 rfl (by decide +kernel) ?_
  refine s_lcmp (pc := 39) (by decide +kernel) ?_
  refine s_if_eq (pc := 40) (off := 20) 60 (by decide +kernel) (by decide) (fun _ => ?_) (fun _ => ?_)
  · refine s_lload (pc := 60) (i := 8) 2 rfl (by decide +kernel) ?_
    refine s_lload (pc := 62) (i := 17) 1 rfl (by decide +kernel) ?_
    refine s_lload (pc := 64) (i := 10) 3 rfl (by decide +kernel) ?_
    refine s_lmul (pc := 66) (by decide +kernel) ?_
    refine s_lsub (pc := 67) (by decide +kernel) ?_
    refine s_nmJ (fun v7 => ?_)
    refine s_lstore (pc := 68) (L' := [(21, .long v7), (19, .long w6), (17, .long w3), (8, .long a8), (10, .long a10), (12, .long a12), (14, .long a14), (16, .int a16)]) (i := 21) (by decide) rfl (by decide +kernel) ?_
    refine s_lload (pc := 70) (i := 12) 5 rfl (by decide +kernel) ?_
    refine s_lload (pc := 72) (i := 19) 1 rfl (by decide +kernel) ?_
    refine s_lload (pc := 74) (i := 14) 6 rfl (by decide +kernel) ?_
    refine s_lmul (pc := 76) (by decide +kernel) ?_
    refine s_lsub (pc := 77) (by decide +kernel) ?_
    refine s_nmJ (fun v8 => ?_)
    refine s_lstore (pc := 78) (L' := [(23, .long v8), (21, .long v7), (19, .long w6), (17, .long w3), (8, .long a8), (10, .long a10), (12, .long a12), (14, .long a14), (16, .int a16)]) (i := 23) (by decide) rfl (by decide +kernel) ?_
    refine s_lload (pc := 80) (i := 21) 1 rfl (by decide +kernel) ?_
    refine s_lconst (pc := 82) (n := 0) (v := (0 : Int64)) (by decide) (by decide +kernel) ?_
    refine s_lcmp (pc := 83) (by decide +kernel) ?_
    refine s_if_eq (pc := 84) (off := 10) 94 (by decide +kernel) (by decide) (fun _ => ?_) (fun _ => ?_)
    · refine S_sub [8, 1, 0] rfl ?_
      exact pX7_lie_b94 a16 v7 v8 g4
    · refine s_lload (pc := 87) (i := 23) 0 rfl (by decide +kernel) ?_
      refine s_lconst (pc := 89) (n := 0) (v := (0 : Int64)) (by decide) (by decide +kernel) ?_
      refine s_lcmp (pc := 90) (by decide +kernel) ?_
      refine s_if_ne (pc := 91) (off := 31) 122 (by decide +kernel) (by decide) (fun _ => ?_) (fun _ => ?_)
      · refine S_sub [8, 1, 0] rfl ?_
        exact pX7_lie_b94 a16 v7 v8 g4
      · refine s_lload (pc := 122) (i := 10) 5 rfl (by decide +kernel) ?_
        refine s_lstore (pc := 124) (L' := [(8, .long a10), (23, .long v8), (21, .long v7), (19, .long w6), (17, .long w3), (10, .long a10), (12, .long a12), (14, .long a14), (16, .int a16)]) (i := 8) (by decide) rfl (by decide +kernel) ?_
        refine s_lload (pc := 126) (i := 21) 2 rfl (by decide +kernel) ?_
        refine s_lstore (pc := 128) (L' := [(10, .long v7), (8, .long a10), (23, .long v8), (21, .long v7), (19, .long w6), (17, .long w3), (12, .long a12), (14, .long a14), (16, .int a16)]) (i := 10) (by decide) rfl (by decide +kernel) ?_
        refine s_lload (pc := 130) (i := 14) 7 rfl (by decide +kernel) ?_
        refine s_lstore (pc := 132) (L' := [(12, .long a14), (10, .long v7), (8, .long a10), (23, .long v8), (21, .long v7), (19, .long w6), (17, .long w3), (14, .long a14), (16, .int a16)]) (i := 12) (by decide) rfl (by decide +kernel) ?_
        refine s_lload (pc := 134) (i := 23) 3 rfl (by decide +kernel) ?_
        refine s_lstore (pc := 136) (L' := [(14, .long v8), (12, .long a14), (10, .long v7), (8, .long a10), (23, .long v8), (21, .long v7), (19, .long w6), (17, .long w3), (16, .int a16)]) (i := 14) (by decide) rfl (by decide +kernel) ?_
        refine s_iload (pc := 138) (i := 16) 8 rfl (by decide +kernel) ?_
        refine s_ineg (pc := 140) (by decide +kernel) ?_
        refine s_nmI (fun v9 => ?_)
        refine s_istore (pc := 141) (L' := [(16, .int v9), (14, .long v8), (12, .long a14), (10, .long v7), (8, .long a10), (23, .long v8), (21, .long v7), (19, .long w6), (17, .long w3)]) (i := 16) (by decide) rfl (by decide +kernel) ?_
        refine s_goto (pc := 143) (off := -126) 17 (by decide +kernel) (by decide) ?_
        refine S_sub [4, 3, 2, 1, 0] rfl ?_
        exact hr17 a10 v7 a14 v8 v9 g4
  · refine s_lload (pc := 43) (i := 17) 1 rfl (by decide +kernel) ?_
    refine s_lload (pc := 45) (i := 19) 0 rfl (by decide +kernel) ?_
    refine s_lcmp (pc := 47) (by decide +kernel) ?_
    refine s_if_ge (pc := 48) (off := 9) 57 (by decide +kernel) (by decide) (fun _ => ?_) (fun _ => ?_)
    · refine s_iload (pc := 57) (i := 16) 6 rfl (by decide +kernel) ?_
      exact s_iret (pc := 59) rfl (by decide +kernel)
    · refine s_iload (pc := 51) (i := 16) 6 rfl (by decide +kernel) ?_
      refine s_ineg (pc := 53) (by decide +kernel) ?_
      refine s_goto (pc := 54) (off := 5) 59 (by decide +kernel) (by decide) ?_
      exact s_iret (pc := 59) rfl (by decide +kernel)
theorem pX7_lie_l17 {h0 : xH}   : ∀ (k : Nat)  (a8 : Int64) (a10 : Int64) (a12 : Int64) (a14 : Int64) (a16 : Int32) (h : xH), S emI kX7_lie h0 17 [(8, .long a8), (10, .long a10), (12, .long a12), (14, .long a14), (16, .int a16)] [] h (fX7_lie_l17  k  a8 a10 a12 a14 a16 h) := by
  intro k
  induction k with
  | zero => intros; exact S_none
  | succ k ih => intro  a8 a10 a12 a14 a16 h; exact pX7_lie_b17 ih  a8 a10 a12 a14 a16 h
theorem pX7_lie_e    (a0 : Int64) (a2 : Int64) (a4 : Int64) (a6 : Int64) (h : xH) : S emI kX7_lie h 0 [(0, .long a0), (2, .long a2), (4, .long a4), (6, .long a6)] [] h (fX7_lie  a0 a2 a4 a6 h) := by
  unfold fX7_lie
  refine s_lload_n (pc := 0) (k0 := 0) (i := 0) rfl 0 rfl (by decide +kernel) ?_
  refine s_lstore (pc := 1) (L' := [(8, .long a0), (0, .long a0), (2, .long a2), (4, .long a4), (6, .long a6)]) (i := 8) (by decide) rfl (by decide +kernel) ?_
  refine s_lload_n (pc := 3) (k0 := 2) (i := 2) rfl 2 rfl (by decide +kernel) ?_
  refine s_lstore (pc := 4) (L' := [(10, .long a2), (8, .long a0), (0, .long a0), (2, .long a2), (4, .long a4), (6, .long a6)]) (i := 10) (by decide) rfl (by decide +kernel) ?_
  refine s_lload (pc := 6) (i := 4) 4 rfl (by decide +kernel) ?_
  refine s_lstore (pc := 8) (L' := [(12, .long a4), (10, .long a2), (8, .long a0), (0, .long a0), (2, .long a2), (4, .long a4), (6, .long a6)]) (i := 12) (by decide) rfl (by decide +kernel) ?_
  refine s_lload (pc := 10) (i := 6) 6 rfl (by decide +kernel) ?_
  refine s_lstore (pc := 12) (L' := [(14, .long a6), (12, .long a4), (10, .long a2), (8, .long a0), (0, .long a0), (2, .long a2), (4, .long a4), (6, .long a6)]) (i := 14) (by decide) rfl (by decide +kernel) ?_
  refine s_iconst (pc := 14) (n := 1) (v := (1 : Int32)) (by decide) (by decide +kernel) ?_
  refine s_nmI (fun v1 => ?_)
  refine s_istore (pc := 15) (L' := [(16, .int v1), (14, .long a6), (12, .long a4), (10, .long a2), (8, .long a0), (0, .long a0), (2, .long a2), (4, .long a4), (6, .long a6)]) (i := 16) (by decide) rfl (by decide +kernel) ?_
  refine S_sub [4, 3, 2, 1, 0] rfl ?_
  exact pX7_lie_l17 FU a0 a2 a4 a6 v1 h
theorem tX7_lie (a0 : Int64) (a2 : Int64) (a4 : Int64) (a6 : Int64) (h : xH) : Ct yX7_lie kX7_lie emI [.long a0, .long a2, .long a4, .long a6] h (fX7_lie a0 a2 a4 a6 h) := Ct_of (by decide +kernel) rfl rfl rfl (Nat.le_of_ble_eq_true rfl) rfl (pX7_lie_e a0 a2 a4 a6 h)
def fX7_addNew_b92   (a0 : Nat) (a1 : Int64) (a3 : Int64) (a5 : Int64) (a7 : Int64) (a9 : Int64) (a11 : Int32) (h : xH) : Option (Unit × xH) :=
  if kc h a0 = 7 then
  if kc h (hR h a0 29) = 9 then
  if ix a11 (kl h (hR h a0 29)) then
  lt (sJ h (hR h a0 29) a11.toNatClampNeg a1) (fun g4 =>
  if kc g4 (hR g4 a0 29) = 9 then
  if ix (a11 + (1 : Int32)) (kl g4 (hR g4 a0 29)) then
  lt (sJ g4 (hR g4 a0 29) (a11 + (1 : Int32)).toNatClampNeg a3) (fun g9 =>
  if kc g9 (hR g9 a0 29) = 9 then
  if ix (a11 + (2 : Int32)) (kl g9 (hR g9 a0 29)) then
  lt (sJ g9 (hR g9 a0 29) (a11 + (2 : Int32)).toNatClampNeg a5) (fun g14 =>
  if kc g14 (hR g14 a0 29) = 9 then
  if ix (a11 + (3 : Int32)) (kl g14 (hR g14 a0 29)) then
  lt (sJ g14 (hR g14 a0 29) (a11 + (3 : Int32)).toNatClampNeg a7) (fun g19 =>
  if kc g19 (hR g19 a0 29) = 9 then
  if ix (a11 + (4 : Int32)) (kl g19 (hR g19 a0 29)) then
  lt (sJ g19 (hR g19 a0 29) (a11 + (4 : Int32)).toNatClampNeg a9) (fun g24 =>
  lt (sI g24 a0 30 ((hI g24 a0 30) + (1 : Int32))) (fun g27 =>
  some ((), g27)))
  else none
  else none)
  else none
  else none)
  else none
  else none)
  else none
  else none)
  else none
  else none
  else none
def fX7_addNew   (a0 : Nat) (a1 : Int64) (a3 : Int64) (a5 : Int64) (a7 : Int64) (a9 : Int64) (h : xH) : Option (Unit × xH) :=
  bd (fX7_lie a1 a3 a5 a7 h) (fun w3 g1 =>
  if w3 < 0 then (
  if kc g1 a0 = 7 then
  lt ((5 : Int32) * (hI g1 a0 30)) (fun v5 =>
  if (hI g1 a0 30) ≤ 0 then (
  fX7_addNew_b92 a0 a1 a3 a5 a7 a9 v5 g1)
  else (
  if kc g1 (hR g1 a0 29) = 9 then
  if ix (v5 - (1 : Int32)) (kl g1 (hR g1 a0 29)) then
  if (lg_cmp (hJ g1 (hR g1 a0 29) (v5 - (1 : Int32)).toNatClampNeg) a9) = 0 then (
  if ix (v5 - (3 : Int32)) (kl g1 (hR g1 a0 29)) then
  if ix (v5 - (2 : Int32)) (kl g1 (hR g1 a0 29)) then
  bd (fX7_lie (hJ g1 (hR g1 a0 29) (v5 - (3 : Int32)).toNatClampNeg) (hJ g1 (hR g1 a0 29) (v5 - (2 : Int32)).toNatClampNeg) a1 a3 g1) (fun w12 g10 =>
  if w12 = 0 then (
  if kc g10 (hR g10 a0 29) = 9 then
  if ix (v5 - (3 : Int32)) (kl g10 (hR g10 a0 29)) then
  lt (sJ g10 (hR g10 a0 29) (v5 - (3 : Int32)).toNatClampNeg a5) (fun g16 =>
  if kc g16 (hR g16 a0 29) = 9 then
  if ix (v5 - (2 : Int32)) (kl g16 (hR g16 a0 29)) then
  lt (sJ g16 (hR g16 a0 29) (v5 - (2 : Int32)).toNatClampNeg a7) (fun g21 =>
  some ((), g21))
  else none
  else none)
  else none
  else none)
  else (
  fX7_addNew_b92 a0 a1 a3 a5 a7 a9 v5 g10))
  else none
  else none)
  else (
  fX7_addNew_b92 a0 a1 a3 a5 a7 a9 v5 g1)
  else none
  else none))
  else none)
  else (
  some ((), g1)))
theorem pX7_addNew_b92 {h0 : xH}    (a0 : Nat) (a1 : Int64) (a3 : Int64) (a5 : Int64) (a7 : Int64) (a9 : Int64) (a11 : Int32) (h : xH) : S emV kX7_addNew h0 92 [(0, .ref a0), (1, .long a1), (3, .long a3), (5, .long a5), (7, .long a7), (9, .long a9), (11, .int a11)] [] h (fX7_addNew_b92  a0 a1 a3 a5 a7 a9 a11 h) := by
  unfold fX7_addNew_b92
  refine s_aload_n (pc := 92) (k0 := 0) (i := 0) rfl 0 rfl (by decide +kernel) ?_
  refine S_gd (fun c1 => ?_)
  refine s_getR (pc := 93) (k := 29) c1 ft_X7_78 rfl (by decide +kernel) ?_
  refine s_iload (pc := 96) (i := 11) 6 rfl (by decide +kernel) ?_
  refine s_lload_n (pc := 98) (k0 := 1) (i := 1) rfl 1 rfl (by decide +kernel) ?_
  refine S_gd (fun c2 => ?_)
  refine S_gd (fun c3 => ?_)
  refine s_last (pc := 99) c2 c3 (by decide +kernel) ?_
  refine s_nmH (o := h) rfl (fun g4 e5 => ?_)
  refine s_aload_n (pc := 100) (k0 := 0) (i := 0) rfl 0 rfl (by decide +kernel) ?_
  have c6 := kp e5 c1 (by decide)
  refine s_getR (pc := 101) (k := 29) c6 ft_X7_78 rfl (by decide +kernel) ?_
  refine s_iload (pc := 104) (i := 11) 6 rfl (by decide +kernel) ?_
  refine s_iconst (pc := 106) (n := 1) (v := (1 : Int32)) (by decide) (by decide +kernel) ?_
  refine s_iadd (pc := 107) (by decide +kernel) ?_
  refine s_lload_n (pc := 108) (k0 := 3) (i := 3) rfl 2 rfl (by decide +kernel) ?_
  refine S_gd (fun c7 => ?_)
  refine S_gd (fun c8 => ?_)
  refine s_last (pc := 109) c7 c8 (by decide +kernel) ?_
  refine s_nmH (o := g4) rfl (fun g9 e10 => ?_)
  refine s_aload_n (pc := 110) (k0 := 0) (i := 0) rfl 0 rfl (by decide +kernel) ?_
  have c11 := kp e10 c6 (by decide)
  refine s_getR (pc := 111) (k := 29) c11 ft_X7_78 rfl (by decide +kernel) ?_
  refine s_iload (pc := 114) (i := 11) 6 rfl (by decide +kernel) ?_
  refine s_iconst (pc := 116) (n := 2) (v := (2 : Int32)) (by decide) (by decide +kernel) ?_
  refine s_iadd (pc := 117) (by decide +kernel) ?_
  refine s_lload (pc := 118) (i := 5) 3 rfl (by decide +kernel) ?_
  refine S_gd (fun c12 => ?_)
  refine S_gd (fun c13 => ?_)
  refine s_last (pc := 120) c12 c13 (by decide +kernel) ?_
  refine s_nmH (o := g9) rfl (fun g14 e15 => ?_)
  refine s_aload_n (pc := 121) (k0 := 0) (i := 0) rfl 0 rfl (by decide +kernel) ?_
  have c16 := kp e15 c11 (by decide)
  refine s_getR (pc := 122) (k := 29) c16 ft_X7_78 rfl (by decide +kernel) ?_
  refine s_iload (pc := 125) (i := 11) 6 rfl (by decide +kernel) ?_
  refine s_iconst (pc := 127) (n := 3) (v := (3 : Int32)) (by decide) (by decide +kernel) ?_
  refine s_iadd (pc := 128) (by decide +kernel) ?_
  refine s_lload (pc := 129) (i := 7) 4 rfl (by decide +kernel) ?_
  refine S_gd (fun c17 => ?_)
  refine S_gd (fun c18 => ?_)
  refine s_last (pc := 131) c17 c18 (by decide +kernel) ?_
  refine s_nmH (o := g14) rfl (fun g19 e20 => ?_)
  refine s_aload_n (pc := 132) (k0 := 0) (i := 0) rfl 0 rfl (by decide +kernel) ?_
  have c21 := kp e20 c16 (by decide)
  refine s_getR (pc := 133) (k := 29) c21 ft_X7_78 rfl (by decide +kernel) ?_
  refine s_iload (pc := 136) (i := 11) 6 rfl (by decide +kernel) ?_
  refine s_iconst (pc := 138) (n := 4) (v := (4 : Int32)) (by decide) (by decide +kernel) ?_
  refine s_iadd (pc := 139) (by decide +kernel) ?_
  refine s_lload (pc := 140) (i := 9) 5 rfl (by decide +kernel) ?_
  refine S_gd (fun c22 => ?_)
  refine S_gd (fun c23 => ?_)
  refine s_last (pc := 142) c22 c23 (by decide +kernel) ?_
  refine s_nmH (o := g19) rfl (fun g24 e25 => ?_)
  refine s_aload_n (pc := 143) (k0 := 0) (i := 0) rfl 0 rfl (by decide +kernel) ?_
  refine s_dup_a (pc := 144) (by decide +kernel) ?_
  have c26 := kp e25 c21 (by decide)
  refine s_getI (pc := 145) (k := 30) c26 ft_X7_193 rfl (by decide +kernel) ?_
  refine s_iconst (pc := 148) (n := 1) (v := (1 : Int32)) (by decide) (by decide +kernel) ?_
  refine s_iadd (pc := 149) (by decide +kernel) ?_
  refine s_putI (pc := 150) (k := 30) c26 ft_X7_193 (fw_7_30 _ _) rfl rfl (by decide +kernel) ?_
  refine s_nmH (o := g24) rfl (fun g27 e28 => ?_)
  exact s_vret (pc := 153) rfl (by decide +kernel)
theorem pX7_addNew_e    (a0 : Nat) (a1 : Int64) (a3 : Int64) (a5 : Int64) (a7 : Int64) (a9 : Int64) (h : xH) : S emV kX7_addNew h 0 [(0, .ref a0), (1, .long a1), (3, .long a3), (5, .long a5), (7, .long a7), (9, .long a9)] [] h (fX7_addNew  a0 a1 a3 a5 a7 a9 h) := by
  unfold fX7_addNew
  refine s_lload_n (pc := 0) (k0 := 1) (i := 1) rfl 1 rfl (by decide +kernel) ?_
  refine s_lload_n (pc := 1) (k0 := 3) (i := 3) rfl 2 rfl (by decide +kernel) ?_
  refine s_lload (pc := 2) (i := 5) 3 rfl (by decide +kernel) ?_
  refine s_lload (pc := 4) (i := 7) 4 rfl (by decide +kernel) ?_
  refine s_cSi (pc := 6) [.long a1, .long a3, .long a5, .long a7] (tX7_lie a1 a3 a5 a7 h) cw_X7_189 rfl ⟨⟨Nat.le_of_ble_eq_true rfl, Nat.le_of_ble_eq_true rfl⟩, Nat.le_of_ble_eq_true rfl⟩ rfl (by decide +kernel) (fun w3 g1 e2 => ?_)
  refine s_if_lt (pc := 9) (off := 4) 13 (by decide +kernel) (by decide) (fun _ => ?_) (fun _ => ?_)
  · refine s_iconst (pc := 13) (n := 5) (v := (5 : Int32)) (by decide) (by decide +kernel) ?_
    refine s_aload_n (pc := 14) (k0 := 0) (i := 0) rfl 0 rfl (by decide +kernel) ?_
    refine S_gd (fun c4 => ?_)
    refine s_getI (pc := 15) (k := 30) c4 ft_X7_193 rfl (by decide +kernel) ?_
    refine s_imul (pc := 18) (by decide +kernel) ?_
    refine s_nmI (fun v5 => ?_)
    refine s_istore (pc := 19) (L' := [(11, .int v5), (0, .ref a0), (1, .long a1), (3, .long a3), (5, .long a5), (7, .long a7), (9, .long a9)]) (i := 11) (by decide) rfl (by decide +kernel) ?_
    refine s_aload_n (pc := 21) (k0 := 0) (i := 0) rfl 1 rfl (by decide +kernel) ?_
    refine s_getI (pc := 22) (k := 30) c4 ft_X7_193 rfl (by decide +kernel) ?_
    refine s_if_le (pc := 25) (off := 67) 92 (by decide +kernel) (by decide) (fun _ => ?_) (fun _ => ?_)
    · refine S_sub [1, 2, 3, 4, 5, 6, 0] rfl ?_
      exact pX7_addNew_b92 a0 a1 a3 a5 a7 a9 v5 g1
    · refine s_aload_n (pc := 28) (k0 := 0) (i := 0) rfl 1 rfl (by decide +kernel) ?_
      refine s_getR (pc := 29) (k := 29) c4 ft_X7_78 rfl (by decide +kernel) ?_
      refine s_iload (pc := 32) (i := 11) 0 rfl (by decide +kernel) ?_
      refine s_iconst (pc := 34) (n := 1) (v := (1 : Int32)) (by decide) (by decide +kernel) ?_
      refine s_isub (pc := 35) (by decide +kernel) ?_
      refine S_gd (fun c6 => ?_)
      refine S_gd (fun c7 => ?_)
      refine s_lald (pc := 36) c6 c7 (by decide +kernel) ?_
      refine s_lload (pc := 37) (i := 9) 6 rfl (by decide +kernel) ?_
      refine s_lcmp (pc := 39) (by decide +kernel) ?_
      refine s_if_ne (pc := 40) (off := 52) 92 (by decide +kernel) (by decide) (fun _ => ?_) (fun _ => ?_)
      · refine s_aload_n (pc := 43) (k0 := 0) (i := 0) rfl 1 rfl (by decide +kernel) ?_
        refine s_getR (pc := 44) (k := 29) c4 ft_X7_78 rfl (by decide +kernel) ?_
        refine s_iload (pc := 47) (i := 11) 0 rfl (by decide +kernel) ?_
        refine s_iconst (pc := 49) (n := 3) (v := (3 : Int32)) (by decide) (by decide +kernel) ?_
        refine s_isub (pc := 50) (by decide +kernel) ?_
        refine S_gd (fun c8 => ?_)
        refine s_lald (pc := 51) c6 c8 (by decide +kernel) ?_
        refine s_aload_n (pc := 52) (k0 := 0) (i := 0) rfl 1 rfl (by decide +kernel) ?_
        refine s_getR (pc := 53) (k := 29) c4 ft_X7_78 rfl (by decide +kernel) ?_
        refine s_iload (pc := 56) (i := 11) 0 rfl (by decide +kernel) ?_
        refine s_iconst (pc := 58) (n := 2) (v := (2 : Int32)) (by decide) (by decide +kernel) ?_
        refine s_isub (pc := 59) (by decide +kernel) ?_
        refine S_gd (fun c9 => ?_)
        refine s_lald (pc := 60) c6 c9 (by decide +kernel) ?_
        refine s_lload_n (pc := 61) (k0 := 1) (i := 1) rfl 2 rfl (by decide +kernel) ?_
        refine s_lload_n (pc := 62) (k0 := 3) (i := 3) rfl 3 rfl (by decide +kernel) ?_
        refine s_cSi (pc := 63) [.long (hJ g1 (hR g1 a0 29) (v5 - (3 : Int32)).toNatClampNeg), .long (hJ g1 (hR g1 a0 29) (v5 - (2 : Int32)).toNatClampNeg), .long a1, .long a3] (tX7_lie (hJ g1 (hR g1 a0 29) (v5 - (3 : Int32)).toNatClampNeg) (hJ g1 (hR g1 a0 29) (v5 - (2 : Int32)).toNatClampNeg) a1 a3 g1) cw_X7_189 rfl ⟨⟨Nat.le_of_ble_eq_true rfl, Nat.le_of_ble_eq_true rfl⟩, Nat.le_of_ble_eq_true rfl⟩ rfl (by decide +kernel) (fun w12 g10 e11 => ?_)
        refine s_if_ne (pc := 66) (off := 26) 92 (by decide +kernel) (by decide) (fun _ => ?_) (fun _ => ?_)
        · refine s_aload_n (pc := 69) (k0 := 0) (i := 0) rfl 1 rfl (by decide +kernel) ?_
          have c13 := kp e11 c4 (by decide)
          refine s_getR (pc := 70) (k := 29) c13 ft_X7_78 rfl (by decide +kernel) ?_
          refine s_iload (pc := 73) (i := 11) 0 rfl (by decide +kernel) ?_
          refine s_iconst (pc := 75) (n := 3) (v := (3 : Int32)) (by decide) (by decide +kernel) ?_
          refine s_isub (pc := 76) (by decide +kernel) ?_
          refine s_lload (pc := 77) (i := 5) 4 rfl (by decide +kernel) ?_
          refine S_gd (fun c14 => ?_)
          refine S_gd (fun c15 => ?_)
          refine s_last (pc := 79) c14 c15 (by decide +kernel) ?_
          refine s_nmH (o := g10) rfl (fun g16 e17 => ?_)
          refine s_aload_n (pc := 80) (k0 := 0) (i := 0) rfl 1 rfl (by decide +kernel) ?_
          have c18 := kp e17 c13 (by decide)
          refine s_getR (pc := 81) (k := 29) c18 ft_X7_78 rfl (by decide +kernel) ?_
          refine s_iload (pc := 84) (i := 11) 0 rfl (by decide +kernel) ?_
          refine s_iconst (pc := 86) (n := 2) (v := (2 : Int32)) (by decide) (by decide +kernel) ?_
          refine s_isub (pc := 87) (by decide +kernel) ?_
          refine s_lload (pc := 88) (i := 7) 5 rfl (by decide +kernel) ?_
          refine S_gd (fun c19 => ?_)
          refine S_gd (fun c20 => ?_)
          refine s_last (pc := 90) c19 c20 (by decide +kernel) ?_
          refine s_nmH (o := g16) rfl (fun g21 e22 => ?_)
          exact s_vret (pc := 91) rfl (by decide +kernel)
        · refine S_sub [1, 2, 3, 4, 5, 6, 0] rfl ?_
          exact pX7_addNew_b92 a0 a1 a3 a5 a7 a9 v5 g10
      · refine S_sub [1, 2, 3, 4, 5, 6, 0] rfl ?_
        exact pX7_addNew_b92 a0 a1 a3 a5 a7 a9 v5 g1
  · exact s_vret (pc := 12) rfl (by decide +kernel)
theorem tX7_addNew (a0 : Nat) (a1 : Int64) (a3 : Int64) (a5 : Int64) (a7 : Int64) (a9 : Int64) (h : xH) : Ct yX7_addNew kX7_addNew emV [.ref a0, .long a1, .long a3, .long a5, .long a7, .long a9] h (fX7_addNew a0 a1 a3 a5 a7 a9 h) := Ct_of (by decide +kernel) rfl rfl rfl (Nat.le_of_ble_eq_true rfl) rfl (pX7_addNew_e a0 a1 a3 a5 a7 a9 h)
def fX7_lieAt   (a0 : Nat) (a1 : Int32) (a2 : Int32) (a3 : Int64) (a5 : Int64) (h : xH) : Option (Int32 × xH) :=
  if kc h a0 = 7 then
  if kc h (hR h a0 22) = 9 then
  if ix a1 (kl h (hR h a0 22)) then
  if kc h (hR h a0 23) = 9 then
  if ix a1 (kl h (hR h a0 23)) then
  if kc h (hR h a0 24) = 9 then
  if ix a1 (kl h (hR h a0 24)) then
  if ix a2 (kl h (hR h a0 22)) then
  if ix a2 (kl h (hR h a0 23)) then
  if ix a2 (kl h (hR h a0 24)) then
  bd (fX7_lie (((hJ h (hR h a0 22) a1.toNatClampNeg) * a5) + ((hJ h (hR h a0 23) a1.toNatClampNeg) * a3)) ((hJ h (hR h a0 24) a1.toNatClampNeg) * a5) (((hJ h (hR h a0 22) a2.toNatClampNeg) * a5) + ((hJ h (hR h a0 23) a2.toNatClampNeg) * a3)) ((hJ h (hR h a0 24) a2.toNatClampNeg) * a5) h) (fun w13 g11 =>
  some (w13, g11))
  else none
  else none
  else none
  else none
  else none
  else none
  else none
  else none
  else none
  else none
theorem pX7_lieAt_e    (a0 : Nat) (a1 : Int32) (a2 : Int32) (a3 : Int64) (a5 : Int64) (h : xH) : S emI kX7_lieAt h 0 [(0, .ref a0), (1, .int a1), (2, .int a2), (3, .long a3), (5, .long a5)] [] h (fX7_lieAt  a0 a1 a2 a3 a5 h) := by
  unfold fX7_lieAt
  refine s_aload_n (pc := 0) (k0 := 0) (i := 0) rfl 0 rfl (by decide +kernel) ?_
  refine S_gd (fun c1 => ?_)
  refine s_getR (pc := 1) (k := 22) c1 ft_X7_63 rfl (by decide +kernel) ?_
  refine s_iload_n (pc := 4) (k0 := 1) (i := 1) rfl 1 rfl (by decide +kernel) ?_
  refine S_gd (fun c2 => ?_)
  refine S_gd (fun c3 => ?_)
  refine s_lald (pc := 5) c2 c3 (by decide +kernel) ?_
  refine s_lload (pc := 6) (i := 5) 4 rfl (by decide +kernel) ?_
  refine s_lmul (pc := 8) (by decide +kernel) ?_
  refine s_aload_n (pc := 9) (k0 := 0) (i := 0) rfl 0 rfl (by decide +kernel) ?_
  refine s_getR (pc := 10) (k := 23) c1 ft_X7_66 rfl (by decide +kernel) ?_
  refine s_iload_n (pc := 13) (k0 := 1) (i := 1) rfl 1 rfl (by decide +kernel) ?_
  refine S_gd (fun c4 => ?_)
  refine S_gd (fun c5 => ?_)
  refine s_lald (pc := 14) c4 c5 (by decide +kernel) ?_
  refine s_lload_n (pc := 15) (k0 := 3) (i := 3) rfl 3 rfl (by decide +kernel) ?_
  refine s_lmul (pc := 16) (by decide +kernel) ?_
  refine s_ladd (pc := 17) (by decide +kernel) ?_
  refine s_aload_n (pc := 18) (k0 := 0) (i := 0) rfl 0 rfl (by decide +kernel) ?_
  refine s_getR (pc := 19) (k := 24) c1 ft_X7_69 rfl (by decide +kernel) ?_
  refine s_iload_n (pc := 22) (k0 := 1) (i := 1) rfl 1 rfl (by decide +kernel) ?_
  refine S_gd (fun c6 => ?_)
  refine S_gd (fun c7 => ?_)
  refine s_lald (pc := 23) c6 c7 (by decide +kernel) ?_
  refine s_lload (pc := 24) (i := 5) 4 rfl (by decide +kernel) ?_
  refine s_lmul (pc := 26) (by decide +kernel) ?_
  refine s_aload_n (pc := 27) (k0 := 0) (i := 0) rfl 0 rfl (by decide +kernel) ?_
  refine s_getR (pc := 28) (k := 22) c1 ft_X7_63 rfl (by decide +kernel) ?_
  refine s_iload_n (pc := 31) (k0 := 2) (i := 2) rfl 2 rfl (by decide +kernel) ?_
  refine S_gd (fun c8 => ?_)
  refine s_lald (pc := 32) c2 c8 (by decide +kernel) ?_
  refine s_lload (pc := 33) (i := 5) 4 rfl (by decide +kernel) ?_
  refine s_lmul (pc := 35) (by decide +kernel) ?_
  refine s_aload_n (pc := 36) (k0 := 0) (i := 0) rfl 0 rfl (by decide +kernel) ?_
  refine s_getR (pc := 37) (k := 23) c1 ft_X7_66 rfl (by decide +kernel) ?_
  refine s_iload_n (pc := 40) (k0 := 2) (i := 2) rfl 2 rfl (by decide +kernel) ?_
  refine S_gd (fun c9 => ?_)
  refine s_lald (pc := 41) c4 c9 (by decide +kernel) ?_
  refine s_lload_n (pc := 42) (k0 := 3) (i := 3) rfl 3 rfl (by decide +kernel) ?_
  refine s_lmul (pc := 43) (by decide +kernel) ?_
  refine s_ladd (pc := 44) (by decide +kernel) ?_
  refine s_aload_n (pc := 45) (k0 := 0) (i := 0) rfl 0 rfl (by decide +kernel) ?_
  refine s_getR (pc := 46) (k := 24) c1 ft_X7_69 rfl (by decide +kernel) ?_
  refine s_iload_n (pc := 49) (k0 := 2) (i := 2) rfl 2 rfl (by decide +kernel) ?_
  refine S_gd (fun c10 => ?_)
  refine s_lald (pc := 50) c6 c10 (by decide +kernel) ?_
  refine s_lload (pc := 51) (i := 5) 4 rfl (by decide +kernel) ?_
  refine s_lmul (pc := 53) (by decide +kernel) ?_
  refine s_cSi (pc := 54) [.long (((hJ h (hR h a0 22) a1.toNatClampNeg) * a5) + ((hJ h (hR h a0 23) a1.toNatClampNeg) * a3)), .long ((hJ h (hR h a0 24) a1.toNatClampNeg) * a5), .long (((hJ h (hR h a0 22) a2.toNatClampNeg) * a5) + ((hJ h (hR h a0 23) a2.toNatClampNeg) * a3)), .long ((hJ h (hR h a0 24) a2.toNatClampNeg) * a5)] (tX7_lie (((hJ h (hR h a0 22) a1.toNatClampNeg) * a5) + ((hJ h (hR h a0 23) a1.toNatClampNeg) * a3)) ((hJ h (hR h a0 24) a1.toNatClampNeg) * a5) (((hJ h (hR h a0 22) a2.toNatClampNeg) * a5) + ((hJ h (hR h a0 23) a2.toNatClampNeg) * a3)) ((hJ h (hR h a0 24) a2.toNatClampNeg) * a5) h) cw_X7_189 rfl ⟨⟨Nat.le_of_ble_eq_true rfl, Nat.le_of_ble_eq_true rfl⟩, Nat.le_of_ble_eq_true rfl⟩ rfl (by decide +kernel) (fun w13 g11 e12 => ?_)
  exact s_iret (pc := 57) rfl (by decide +kernel)
theorem tX7_lieAt (a0 : Nat) (a1 : Int32) (a2 : Int32) (a3 : Int64) (a5 : Int64) (h : xH) : Ct yX7_lieAt kX7_lieAt emI [.ref a0, .int a1, .int a2, .long a3, .long a5] h (fX7_lieAt a0 a1 a2 a3 a5 h) := Ct_of (by decide +kernel) rfl rfl rfl (Nat.le_of_ble_eq_true rfl) rfl (pX7_lieAt_e a0 a1 a2 a3 a5 h)
