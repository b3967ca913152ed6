/-! the law, its cases: printed by a program (wip/whole/gen76.py) -/
set_option maxRecDepth 100000 in
theorem ck_law_0 : chkCase 264 1 13 61 3 17 173 2 (2100) = true := by decide +kernel
set_option maxRecDepth 100000 in
theorem ck_law_1 : chkCase 287 0 18 62 2 22 179 2 (2087) = true := by decide +kernel
set_option maxRecDepth 100000 in
theorem ck_law_2 : chkCase 300 3 23 63 5 27 186 5 (2044) = true := by decide +kernel
set_option maxRecDepth 100000 in
theorem ck_law_3 : chkCase 343 4 28 64 7 32 187 8 (1991) = true := by decide +kernel
set_option maxRecDepth 100000 in
theorem ck_law_4 : chkCase 396 2 33 65 4 37 188 3 (1958) = true := by decide +kernel
set_option maxRecDepth 100000 in
theorem ck_law_5 : chkCase 429 3 38 66 6 41 189 6 (1915) = true := by decide +kernel
set_option maxRecDepth 100000 in
theorem ck_law_6 : chkCase 472 3 42 67 6 45 190 5 (1872) = true := by decide +kernel
set_option maxRecDepth 100000 in
theorem ck_law_7 : chkCase 515 1 46 68 4 49 191 3 (1849) = true := by decide +kernel
set_option maxRecDepth 100000 in
theorem ck_law_8 : chkCase 538 1 50 69 3 53 192 3 (1826) = true := by decide +kernel
set_option maxRecDepth 100000 in
theorem ck_law_9 : chkCase 561 0 54 70 1 57 185 2 (1813) = true := by decide +kernel
set_option maxRecDepth 100000 in
theorem ck_law_10 : chkCase 574 5 58 71 9 62 193 8 (1750) = true := by decide +kernel
set_option maxRecDepth 100000 in
theorem ck_law_11 : chkCase 637 5 63 72 7 66 195 8 (1687) = true := by decide +kernel
set_option maxRecDepth 100000 in
theorem ck_law_12 : chkCase 700 5 67 73 7 70 196 7 (1624) = true := by decide +kernel
set_option maxRecDepth 100000 in
theorem ck_law_13 : chkCase 763 3 71 74 9 74 198 5 (1581) = true := by decide +kernel
set_option maxRecDepth 100000 in
theorem ck_law_14 : chkCase 806 3 75 75 9 78 199 9 (1538) = true := by decide +kernel
set_option maxRecDepth 100000 in
theorem ck_law_15 : chkCase 849 4 79 76 10 82 200 10 (1485) = true := by decide +kernel
set_option maxRecDepth 100000 in
theorem ck_law_16 : chkCase 902 4 83 77 7 86 201 6 (1432) = true := by decide +kernel
set_option maxRecDepth 100000 in
theorem ck_law_17 : chkCase 955 4 87 79 7 90 205 10 (1379) = true := by decide +kernel
set_option maxRecDepth 100000 in
theorem ck_law_18 : chkCase 1008 4 91 80 7 94 208 10 (1326) = true := by decide +kernel
set_option maxRecDepth 100000 in
theorem ck_law_19 : chkCase 1061 4 95 82 9 98 209 10 (1273) = true := by decide +kernel
set_option maxRecDepth 100000 in
theorem ck_law_20 : chkCase 1114 3 99 83 5 102 211 10 (1230) = true := by decide +kernel
set_option maxRecDepth 100000 in
theorem ck_law_21 : chkCase 1157 6 103 84 15 107 212 15 (1155) = true := by decide +kernel
set_option maxRecDepth 100000 in
theorem ck_law_22 : chkCase 1232 2 108 90 5 111 215 4 (1122) = true := by decide +kernel
set_option maxRecDepth 100000 in
theorem ck_law_23 : chkCase 1265 1 112 91 4 115 216 4 (1099) = true := by decide +kernel
set_option maxRecDepth 100000 in
theorem ck_law_24 : chkCase 1288 2 116 92 4 119 218 4 (1066) = true := by decide +kernel
set_option maxRecDepth 100000 in
theorem ck_law_25 : chkCase 1321 1 120 93 7 123 219 4 (1043) = true := by decide +kernel
set_option maxRecDepth 100000 in
theorem ck_law_26 : chkCase 1344 3 124 101 6 127 220 5 (1000) = true := by decide +kernel
set_option maxRecDepth 100000 in
theorem ck_law_27 : chkCase 1387 1 128 94 3 131 222 2 (977) = true := by decide +kernel
set_option maxRecDepth 100000 in
theorem ck_law_28 : chkCase 1410 0 132 95 5 135 223 3 (964) = true := by decide +kernel
set_option maxRecDepth 100000 in
theorem ck_law_29 : chkCase 1423 1 136 98 5 139 226 5 (941) = true := by decide +kernel
set_option maxRecDepth 100000 in
theorem ck_law_30 : chkCase 1446 1 140 99 5 143 227 5 (918) = true := by decide +kernel
set_option maxRecDepth 100000 in
theorem ck_law_31 : chkCase 1469 3 144 88 5 147 229 5 (875) = true := by decide +kernel
set_option maxRecDepth 100000 in
theorem ck_law_32 : chkCase 1512 2 148 89 8 151 230 8 (842) = true := by decide +kernel
set_option maxRecDepth 100000 in
theorem ck_law_33 : chkCase 1545 6 152 85 9 155 233 11 (767) = true := by decide +kernel
set_option maxRecDepth 100000 in
theorem ck_law_34 : chkCase 1620 3 156 81 7 159 234 7 (724) = true := by decide +kernel
set_option maxRecDepth 100000 in
theorem ck_law_35 : chkCase 1663 3 160 102 10 163 235 10 (681) = true := by decide +kernel
set_option maxRecDepth 100000 in
theorem ck_law_36 : chkCase 1706 4 164 103 7 167 236 9 (628) = true := by decide +kernel
set_option maxRecDepth 100000 in
theorem ck_law_37 : chkCase 1759 3 168 86 7 171 237 9 (585) = true := by decide +kernel
set_option maxRecDepth 100000 in
theorem ck_law_38 : chkCase 1802 2 172 104 6 175 238 6 (552) = true := by decide +kernel
set_option maxRecDepth 100000 in
theorem ck_law_39 : chkCase 1835 3 176 105 13 179 239 12 (509) = true := by decide +kernel
set_option maxRecDepth 100000 in
theorem ck_law_40 : chkCase 1878 3 180 106 7 183 240 7 (466) = true := by decide +kernel
set_option maxRecDepth 100000 in
theorem ck_law_41 : chkCase 1921 3 184 107 6 187 241 6 (423) = true := by decide +kernel
set_option maxRecDepth 100000 in
theorem ck_law_42 : chkCase 1964 3 188 108 7 191 242 8 (380) = true := by decide +kernel
set_option maxRecDepth 100000 in
theorem ck_law_43 : chkCase 2007 3 192 109 7 195 243 8 (337) = true := by decide +kernel
set_option maxRecDepth 100000 in
theorem ck_law_44 : chkCase 2050 4 196 78 11 199 245 11 (284) = true := by decide +kernel
set_option maxRecDepth 100000 in
theorem ck_law_45 : chkCase 2103 4 200 110 7 203 246 9 (231) = true := by decide +kernel
set_option maxRecDepth 100000 in
theorem ck_law_46 : chkCase 2156 2 204 87 10 207 247 9 (198) = true := by decide +kernel
set_option maxRecDepth 100000 in
theorem ck_law_47 : chkCase 2189 1 208 96 3 211 248 2 (175) = true := by decide +kernel
set_option maxRecDepth 100000 in
theorem ck_law_48 : chkCase 2212 2 212 100 5 215 249 5 (142) = true := by decide +kernel
set_option maxRecDepth 100000 in
theorem ck_law_49 : chkCase 2245 0 216 97 2 219 250 2 (129) = true := by decide +kernel
set_option maxRecDepth 100000 in
theorem ck_law_50 : chkCase 2258 6 220 111 13 223 251 13 (54) = true := by decide +kernel
set_option maxRecDepth 100000 in
theorem ck_law_51 : chkCase 2333 0 224 112 1 227 182 1 (41) = true := by decide +kernel
set_option maxRecDepth 100000 in
theorem ck_law_52 : chkCase 2346 0 228 113 1 231 183 1 (28) = true := by decide +kernel
set_option maxRecDepth 100000 in
theorem ck_law_53 : chkCase 2359 1 232 114 2 235 252 4 (5) = true := by decide +kernel
section LAWC
variable {p : Program} {l : Launch} {e : Env} {s : State} {m : MethodId} {below : List Frame} {meth : Method} {c : Code} {b L : Nat} {xs : Nat → Int32} {D : va_G} {cA : ClassId}
theorem lc_0 (C : LCx p s m meth c b L xs D cA) {i : Nat} (hi : i + 7 ≤ L) : lGo p l e s m below meth c b D cA i 264 := law_case C hi (show SIM 61 3 173 2 (argl xs i 1 1) from SIM_feed (lx_ir _)) ck_law_0
theorem lc_1 (C : LCx p s m meth c b L xs D cA) {i : Nat} (hi : i + 7 ≤ L) : lGo p l e s m below meth c b D cA i 287 := law_case C hi (show SIM 62 2 179 2 (argl xs i 0 1) from SIM_field) ck_law_1
theorem lc_2 (C : LCx p s m meth c b L xs D cA) {i : Nat} (hi : i + 7 ≤ L) : lGo p l e s m below meth c b D cA i 300 := law_case C hi (show SIM 63 5 186 5 (argl xs i 3 1) from SIM_ground (lx_ir _) (lx_ir _) (lx_ir _)) ck_law_2
theorem lc_3 (C : LCx p s m meth c b L xs D cA) {i : Nat} (hi : i + 7 ≤ L) : lGo p l e s m below meth c b D cA i 343 := law_case C hi (show SIM 64 7 187 8 (argl xs i 4 1) from SIM_yard (lx_ir _) (lx_ir _) (lx_ir _) (lx_ir _)) ck_law_3
theorem lc_4 (C : LCx p s m meth c b L xs D cA) {i : Nat} (hi : i + 7 ≤ L) : lGo p l e s m below meth c b D cA i 396 := law_case C hi (show SIM 65 4 188 3 (argl xs i 2 1) from SIM_one (lx_ir _) (lx_ir _)) ck_law_4
theorem lc_5 (C : LCx p s m meth c b L xs D cA) {i : Nat} (hi : i + 7 ≤ L) : lGo p l e s m below meth c b D cA i 429 := law_case C hi (show SIM 66 6 189 6 (argl xs i 3 1) from SIM_person (lx_ir _) (lx_ir _) (lx_ir _)) ck_law_5
theorem lc_6 (C : LCx p s m meth c b L xs D cA) {i : Nat} (hi : i + 7 ≤ L) : lGo p l e s m below meth c b D cA i 472 := law_case C hi (show SIM 67 6 190 5 (argl xs i 3 1) from SIM_comes (lx_ir _) (lx_ir _) (lx_ir _)) ck_law_6
theorem lc_7 (C : LCx p s m meth c b L xs D cA) {i : Nat} (hi : i + 7 ≤ L) : lGo p l e s m below meth c b D cA i 515 := law_case C hi (show SIM 68 4 191 3 (argl xs i 1 1) from SIM_yards (lx_ir _)) ck_law_7
theorem lc_8 (C : LCx p s m meth c b L xs D cA) {i : Nat} (hi : i + 7 ≤ L) : lGo p l e s m below meth c b D cA i 538 := law_case C hi (show SIM 69 3 192 3 (argl xs i 1 1) from SIM_lane (lx_ir _)) ck_law_8
theorem lc_9 (C : LCx p s m meth c b L xs D cA) {i : Nat} (hi : i + 7 ≤ L) : lGo p l e s m below meth c b D cA i 561 := law_case C hi (show SIM 70 1 185 2 (argl xs i 0 1) from SIM_back) ck_law_9
theorem lc_10 (C : LCx p s m meth c b L xs D cA) {i : Nat} (hi : i + 7 ≤ L) : lGo p l e s m below meth c b D cA i 574 := law_case C hi (show SIM 71 9 193 8 (argl xs i 5 1) from SIM_feels (lx_ir _) (lx_ir _) (lx_ir _) (lx_ir _) (lx_ir _)) ck_law_10
theorem lc_11 (C : LCx p s m meth c b L xs D cA) {i : Nat} (hi : i + 7 ≤ L) : lGo p l e s m below meth c b D cA i 637 := law_case C hi (show SIM 72 7 195 8 (argl xs i 5 1) from SIM_race (lx_ir _) (lx_ir _) (lx_ir _) (lx_ir _) (lx_ir _)) ck_law_11
theorem lc_12 (C : LCx p s m meth c b L xs D cA) {i : Nat} (hi : i + 7 ≤ L) : lGo p l e s m below meth c b D cA i 700 := law_case C hi (show SIM 73 7 196 7 (argl xs i 5 1) from SIM_raceOver (lx_ir _) (lx_ir _) (lx_ir _) (lx_ir _) (lx_ir _)) ck_law_12
theorem lc_13 (C : LCx p s m meth c b L xs D cA) {i : Nat} (hi : i + 7 ≤ L) : lGo p l e s m below meth c b D cA i 763 := law_case C hi (show SIM 74 9 198 5 (argl xs i 3 1) from SIM_bestPace (lx_ir _) (lx_ir _) (lx_ir _)) ck_law_13
theorem lc_14 (C : LCx p s m meth c b L xs D cA) {i : Nat} (hi : i + 7 ≤ L) : lGo p l e s m below meth c b D cA i 806 := law_case C hi (show SIM 75 9 199 9 (argl xs i 3 1) from SIM_bestHold (lx_ir _) (lx_ir _) (lx_ir _)) ck_law_14
theorem lc_15 (C : LCx p s m meth c b L xs D cA) {i : Nat} (hi : i + 7 ≤ L) : lGo p l e s m below meth c b D cA i 849 := law_case C hi (show SIM 76 10 200 10 (argl xs i 4 1) from SIM_bestChange (lx_ir _) (lx_ir _) (lx_ir _) (lx_ir _)) ck_law_15
theorem lc_16 (C : LCx p s m meth c b L xs D cA) {i : Nat} (hi : i + 7 ≤ L) : lGo p l e s m below meth c b D cA i 902 := law_case C hi (show SIM 77 7 201 6 (argl xs i 4 1) from SIM_whoFirst (lx_ir _) (lx_ir _) (lx_ir _) (lx_ir _)) ck_law_16
theorem lc_17 (C : LCx p s m meth c b L xs D cA) {i : Nat} (hi : i + 7 ≤ L) : lGo p l e s m below meth c b D cA i 955 := law_case C hi (show SIM 79 7 205 10 (argl xs i 4 1) from SIM_soonest (lx_ir _) (lx_ir _) (lx_ir _) (lx_ir _)) ck_law_17
theorem lc_18 (C : LCx p s m meth c b L xs D cA) {i : Nat} (hi : i + 7 ≤ L) : lGo p l e s m below meth c b D cA i 1008 := law_case C hi (show SIM 80 7 208 10 (argl xs i 4 1) from SIM_lanes (lx_ir _) (lx_ir _) (lx_ir _) (lx_ir _)) ck_law_18
theorem lc_19 (C : LCx p s m meth c b L xs D cA) {i : Nat} (hi : i + 7 ≤ L) : lGo p l e s m below meth c b D cA i 1061 := law_case C hi (show SIM 82 9 209 10 (argl xs i 4 1) from SIM_heavy (lx_ir _) (lx_ir _) (lx_ir _) (lx_ir _)) ck_law_19
theorem lc_20 (C : LCx p s m meth c b L xs D cA) {i : Nat} (hi : i + 7 ≤ L) : lGo p l e s m below meth c b D cA i 1114 := law_case C hi (show SIM 83 5 211 10 (argl xs i 3 1) from SIM_pairs (lx_ir _) (lx_ir _) (lx_ir _)) ck_law_20
theorem lc_21 (C : LCx p s m meth c b L xs D cA) {i : Nat} (hi : i + 7 ≤ L) : lGo p l e s m below meth c b D cA i 1157 := law_case C hi (show SIM 84 15 212 15 (argl xs i 6 1) from SIM_game (lx_ir _) (lx_ir _) (lx_ir _) (lx_ir _) (lx_ir _) (lx_ir _)) ck_law_21
theorem lc_22 (C : LCx p s m meth c b L xs D cA) {i : Nat} (hi : i + 7 ≤ L) : lGo p l e s m below meth c b D cA i 1232 := law_case C hi (show SIM 90 5 215 4 (argl xs i 2 1) from SIM_steers (lx_ir _) (lx_ir _)) ck_law_22
theorem lc_23 (C : LCx p s m meth c b L xs D cA) {i : Nat} (hi : i + 7 ≤ L) : lGo p l e s m below meth c b D cA i 1265 := law_case C hi (show SIM 91 4 216 4 (argl xs i 1 1) from SIM_straight (lx_ir _)) ck_law_23
theorem lc_24 (C : LCx p s m meth c b L xs D cA) {i : Nat} (hi : i + 7 ≤ L) : lGo p l e s m below meth c b D cA i 1288 := law_case C hi (show SIM 92 4 218 4 (argl xs i 2 1) from SIM_cup (lx_ir _) (lx_ir _)) ck_law_24
theorem lc_25 (C : LCx p s m meth c b L xs D cA) {i : Nat} (hi : i + 7 ≤ L) : lGo p l e s m below meth c b D cA i 1321 := law_case C hi (show SIM 93 7 219 4 (argl xs i 1 1) from SIM_bestCup (lx_ir _)) ck_law_25
theorem lc_26 (C : LCx p s m meth c b L xs D cA) {i : Nat} (hi : i + 7 ≤ L) : lGo p l e s m below meth c b D cA i 1344 := law_case C hi (show SIM 101 6 220 5 (argl xs i 3 1) from SIM_inHer (lx_ir _) (lx_ir _) (lx_ir _)) ck_law_26
theorem lc_27 (C : LCx p s m meth c b L xs D cA) {i : Nat} (hi : i + 7 ≤ L) : lGo p l e s m below meth c b D cA i 1387 := law_case C hi (show SIM 94 3 222 2 (argl xs i 1 1) from SIM_laughs (lx_ir _)) ck_law_27
theorem lc_28 (C : LCx p s m meth c b L xs D cA) {i : Nat} (hi : i + 7 ≤ L) : lGo p l e s m below meth c b D cA i 1410 := law_case C hi (show SIM 95 5 223 3 (argl xs i 0 1) from SIM_bestStop) ck_law_28
theorem lc_29 (C : LCx p s m meth c b L xs D cA) {i : Nat} (hi : i + 7 ≤ L) : lGo p l e s m below meth c b D cA i 1423 := law_case C hi (show SIM 98 5 226 5 (argl xs i 1 1) from SIM_pushed (lx_ir _)) ck_law_29
theorem lc_30 (C : LCx p s m meth c b L xs D cA) {i : Nat} (hi : i + 7 ≤ L) : lGo p l e s m below meth c b D cA i 1446 := law_case C hi (show SIM 99 5 227 5 (argl xs i 1 1) from SIM_whose (lx_ir _)) ck_law_30
theorem lc_31 (C : LCx p s m meth c b L xs D cA) {i : Nat} (hi : i + 7 ≤ L) : lGo p l e s m below meth c b D cA i 1469 := law_case C hi (show SIM 88 5 229 5 (argl xs i 3 1) from SIM_team (lx_ir _) (lx_ir _) (lx_ir _)) ck_law_31
theorem lc_32 (C : LCx p s m meth c b L xs D cA) {i : Nat} (hi : i + 7 ≤ L) : lGo p l e s m below meth c b D cA i 1512 := law_case C hi (show SIM 89 8 230 8 (argl xs i 2 1) from SIM_bestTurn (lx_ir _) (lx_ir _)) ck_law_32
theorem lc_33 (C : LCx p s m meth c b L xs D cA) {i : Nat} (hi : i + 7 ≤ L) : lGo p l e s m below meth c b D cA i 1545 := law_case C hi (show SIM 85 9 233 11 (argl xs i 6 1) from SIM_catches (lx_ir _) (lx_ir _) (lx_ir _) (lx_ir _) (lx_ir _) (lx_ir _)) ck_law_33
theorem lc_34 (C : LCx p s m meth c b L xs D cA) {i : Nat} (hi : i + 7 ≤ L) : lGo p l e s m below meth c b D cA i 1620 := law_case C hi (show SIM 81 7 234 7 (argl xs i 3 1) from SIM_even (lx_ir _) (lx_ir _) (lx_ir _)) ck_law_34
theorem lc_35 (C : LCx p s m meth c b L xs D cA) {i : Nat} (hi : i + 7 ≤ L) : lGo p l e s m below meth c b D cA i 1663 := law_case C hi (show SIM 102 10 235 10 (argl xs i 3 1) from SIM_worst (lx_ir _) (lx_ir _) (lx_ir _)) ck_law_35
theorem lc_36 (C : LCx p s m meth c b L xs D cA) {i : Nat} (hi : i + 7 ≤ L) : lGo p l e s m below meth c b D cA i 1706 := law_case C hi (show SIM 103 7 236 9 (argl xs i 4 1) from SIM_handicap (lx_ir _) (lx_ir _) (lx_ir _) (lx_ir _)) ck_law_36
theorem lc_37 (C : LCx p s m meth c b L xs D cA) {i : Nat} (hi : i + 7 ≤ L) : lGo p l e s m below meth c b D cA i 1759 := law_case C hi (show SIM 86 7 237 9 (argl xs i 3 1) from SIM_ladder (lx_ir _) (lx_ir _) (lx_ir _)) ck_law_37
theorem lc_38 (C : LCx p s m meth c b L xs D cA) {i : Nat} (hi : i + 7 ≤ L) : lGo p l e s m below meth c b D cA i 1802 := law_case C hi (show SIM 104 6 238 6 (argl xs i 2 1) from SIM_careful (lx_ir _) (lx_ir _)) ck_law_38
theorem lc_39 (C : LCx p s m meth c b L xs D cA) {i : Nat} (hi : i + 7 ≤ L) : lGo p l e s m below meth c b D cA i 1835 := law_case C hi (show SIM 105 13 239 12 (argl xs i 3 1) from SIM_practice (lx_ir _) (lx_ir _) (lx_ir _)) ck_law_39
theorem lc_40 (C : LCx p s m meth c b L xs D cA) {i : Nat} (hi : i + 7 ≤ L) : lGo p l e s m below meth c b D cA i 1878 := law_case C hi (show SIM 106 7 240 7 (argl xs i 3 1) from SIM_half (lx_ir _) (lx_ir _) (lx_ir _)) ck_law_40
theorem lc_41 (C : LCx p s m meth c b L xs D cA) {i : Nat} (hi : i + 7 ≤ L) : lGo p l e s m below meth c b D cA i 1921 := law_case C hi (show SIM 107 6 241 6 (argl xs i 3 1) from SIM_turnedRound (lx_ir _) (lx_ir _) (lx_ir _)) ck_law_41
theorem lc_42 (C : LCx p s m meth c b L xs D cA) {i : Nat} (hi : i + 7 ≤ L) : lGo p l e s m below meth c b D cA i 1964 := law_case C hi (show SIM 108 7 242 8 (argl xs i 3 1) from SIM_bestLane (lx_ir _) (lx_ir _) (lx_ir _)) ck_law_42
theorem lc_43 (C : LCx p s m meth c b L xs D cA) {i : Nat} (hi : i + 7 ≤ L) : lGo p l e s m below meth c b D cA i 2007 := law_case C hi (show SIM 109 7 243 8 (argl xs i 3 1) from SIM_rain (lx_ir _) (lx_ir _) (lx_ir _)) ck_law_43
theorem lc_44 (C : LCx p s m meth c b L xs D cA) {i : Nat} (hi : i + 7 ≤ L) : lGo p l e s m below meth c b D cA i 2050 := law_case C hi (show SIM 78 11 245 11 (argl xs i 4 1) from SIM_relay (lx_ir _) (lx_ir _) (lx_ir _) (lx_ir _)) ck_law_44
theorem lc_45 (C : LCx p s m meth c b L xs D cA) {i : Nat} (hi : i + 7 ≤ L) : lGo p l e s m below meth c b D cA i 2103 := law_case C hi (show SIM 110 7 246 9 (argl xs i 4 1) from SIM_longest (lx_ir _) (lx_ir _) (lx_ir _) (lx_ir _)) ck_law_45
theorem lc_46 (C : LCx p s m meth c b L xs D cA) {i : Nat} (hi : i + 7 ≤ L) : lGo p l e s m below meth c b D cA i 2156 := law_case C hi (show SIM 87 10 247 9 (argl xs i 2 1) from SIM_fair (lx_ir _) (lx_ir _)) ck_law_46
theorem lc_47 (C : LCx p s m meth c b L xs D cA) {i : Nat} (hi : i + 7 ≤ L) : lGo p l e s m below meth c b D cA i 2189 := law_case C hi (show SIM 96 3 248 2 (argl xs i 1 1) from SIM_row (lx_ir _)) ck_law_47
theorem lc_48 (C : LCx p s m meth c b L xs D cA) {i : Nat} (hi : i + 7 ≤ L) : lGo p l e s m below meth c b D cA i 2212 := law_case C hi (show SIM 100 5 249 5 (argl xs i 2 1) from SIM_judge (lx_ir _) (lx_ir _)) ck_law_48
theorem lc_49 (C : LCx p s m meth c b L xs D cA) {i : Nat} (hi : i + 7 ≤ L) : lGo p l e s m below meth c b D cA i 2245 := law_case C hi (show SIM 97 2 250 2 (argl xs i 0 1) from SIM_clear) ck_law_49
theorem lc_50 (C : LCx p s m meth c b L xs D cA) {i : Nat} (hi : i + 7 ≤ L) : lGo p l e s m below meth c b D cA i 2258 := law_case C hi (show SIM 111 13 251 13 (argl xs i 6 1) from SIM_lots (lx_ir _) (lx_ir _) (lx_ir _) (lx_ir _) (lx_ir _)) ck_law_50
theorem lc_51 (C : LCx p s m meth c b L xs D cA) {i : Nat} (hi : i + 7 ≤ L) : lGo p l e s m below meth c b D cA i 2333 := law_case C hi (show SIM 112 1 182 1 (argl xs i 0 1) from SIM_image) ck_law_51
theorem lc_52 (C : LCx p s m meth c b L xs D cA) {i : Nat} (hi : i + 7 ≤ L) : lGo p l e s m below meth c b D cA i 2346 := law_case C hi (show SIM 113 1 183 1 (argl xs i 0 1) from SIM_restore) ck_law_52
theorem lc_53 (C : LCx p s m meth c b L xs D cA) {i : Nat} (hi : i + 7 ≤ L) : lGo p l e s m below meth c b D cA i 2359 := law_case C hi (show SIM 114 2 252 4 (argl xs i 1 1) from SIM_count (lx_ir _)) ck_law_53
theorem law_cases (C : LCx p s m meth c b L xs D cA) {i : Nat} (hi : i + 7 ≤ L) : ∀ (j : Nat), j < 54 → lGo p l e s m below meth c b D cA i (tgs.getD j 0)
  | 0, _ => lc_0 C hi
  | 1, _ => lc_1 C hi
  | 2, _ => lc_2 C hi
  | 3, _ => lc_3 C hi
  | 4, _ => lc_4 C hi
  | 5, _ => lc_5 C hi
  | 6, _ => lc_6 C hi
  | 7, _ => lc_7 C hi
  | 8, _ => lc_8 C hi
  | 9, _ => lc_9 C hi
  | 10, _ => lc_10 C hi
  | 11, _ => lc_11 C hi
  | 12, _ => lc_12 C hi
  | 13, _ => lc_13 C hi
  | 14, _ => lc_14 C hi
  | 15, _ => lc_15 C hi
  | 16, _ => lc_16 C hi
  | 17, _ => lc_17 C hi
  | 18, _ => lc_18 C hi
  | 19, _ => lc_19 C hi
  | 20, _ => lc_20 C hi
  | 21, _ => lc_21 C hi
  | 22, _ => lc_22 C hi
  | 23, _ => lc_23 C hi
  | 24, _ => lc_24 C hi
  | 25, _ => lc_25 C hi
  | 26, _ => lc_26 C hi
  | 27, _ => lc_27 C hi
  | 28, _ => lc_28 C hi
  | 29, _ => lc_29 C hi
  | 30, _ => lc_30 C hi
  | 31, _ => lc_31 C hi
  | 32, _ => lc_32 C hi
  | 33, _ => lc_33 C hi
  | 34, _ => lc_34 C hi
  | 35, _ => lc_35 C hi
  | 36, _ => lc_36 C hi
  | 37, _ => lc_37 C hi
  | 38, _ => lc_38 C hi
  | 39, _ => lc_39 C hi
  | 40, _ => lc_40 C hi
  | 41, _ => lc_41 C hi
  | 42, _ => lc_42 C hi
  | 43, _ => lc_43 C hi
  | 44, _ => lc_44 C hi
  | 45, _ => lc_45 C hi
  | 46, _ => lc_46 C hi
  | 47, _ => lc_47 C hi
  | 48, _ => lc_48 C hi
  | 49, _ => lc_49 C hi
  | 50, _ => lc_50 C hi
  | 51, _ => lc_51 C hi
  | 52, _ => lc_52 C hi
  | 53, _ => lc_53 C hi
  | j + 54, h => absurd h (by omega)
end LAWC
