/-! the law: its links, its code at the places that a walk comes to; printed by a program (wip/whole/gen76.py) -/
def lls : List (Nat × Nat × Nat) := [(9, 60, 93), (12, 151, 951), (13, 61, 349), (17, 173, 1109), (18, 62, 373), (22, 179, 1117), (23, 63, 439), (27, 186, 1172), (28, 64, 466), (32, 187, 1179), (33, 65, 482), (37, 188, 1191), (38, 66, 494), (41, 189, 1200), (42, 67, 501), (45, 190, 1204), (46, 68, 506), (49, 191, 1208), (50, 69, 510), (53, 192, 1212), (54, 70, 514), (57, 185, 1168), (58, 71, 522), (62, 193, 1216), (63, 72, 542), (66, 195, 1246), (67, 73, 603), (70, 196, 1278), (71, 74, 620), (74, 198, 1285), (75, 75, 624), (78, 199, 1293), (79, 76, 628), (82, 200, 1297), (83, 77, 632), (86, 201, 1301), (87, 79, 640), (90, 205, 1305), (91, 80, 689), (94, 208, 1322), (95, 82, 729), (98, 209, 1334), (99, 83, 738), (102, 211, 1340), (103, 84, 764), (107, 212, 1348), (108, 90, 810), (111, 215, 1356), (112, 91, 819), (115, 216, 1367), (116, 92, 823), (119, 218, 1371), (120, 93, 831), (123, 219, 1379), (124, 101, 879), (127, 220, 1383), (128, 94, 835), (131, 222, 1387), (132, 95, 843), (135, 223, 1395), (136, 98, 855), (139, 226, 1399), (140, 99, 867), (143, 227, 1411), (144, 88, 798), (147, 229, 1415), (148, 89, 806), (151, 230, 1423), (152, 85, 775), (155, 233, 1427), (156, 81, 724), (159, 234, 1439), (160, 102, 888), (163, 235, 1443), (164, 103, 892), (167, 236, 1447), (168, 86, 779), (171, 237, 1451), (172, 104, 897), (175, 238, 1455), (176, 105, 901), (179, 239, 1459), (180, 106, 905), (183, 240, 1463), (184, 107, 909), (187, 241, 1467), (188, 108, 913), (191, 242, 1471), (192, 109, 917), (195, 243, 1475), (196, 78, 636), (199, 245, 1479), (200, 110, 921), (203, 246, 1487), (204, 87, 791), (207, 247, 1491), (208, 96, 847), (211, 248, 1495), (212, 100, 871), (215, 249, 1499), (216, 97, 851), (219, 250, 1503), (220, 111, 925), (223, 251, 1507), (224, 112, 932), (227, 182, 1160), (228, 113, 936), (231, 183, 1164), (232, 114, 940), (235, 252, 1514)]
def chkLL (q : Nat × Nat × Nat) : Bool := decide (lw_tbl[q.2.2]? = some (.methodLink "HandsForAWheelLaw" q.1 (md q.2.1).1)) && (Nat.ble ((md q.2.1).2.2.2.2.2.1 + 1) 10 && Nat.ble (8 + ((md q.2.1).2.2.1 + 11) + (md q.2.1).2.2.2.2.2.2.1) 410)
set_option maxRecDepth 100000 in
theorem lls_ok : lls.all chkLL = true := by decide +kernel
def inst_at : List Nat := [106, 153, 193, 100, 281, 261, 175, 219, 92, 950]
set_option maxRecDepth 100000 in
theorem inst_ok : (List.range 10).all (fun c => decide (lw_tbl[inst_at.getD c 0]? = some (.instantiable (kNm c) (kN c)))) = true := by decide +kernel
set_option maxRecDepth 100000 in
theorem new9_in : Cond.classLink "HandsForAWheelLaw" 7 (kNm 8) ∈ lw_tbl := List.mem_of_getElem? (i := 91) (by decide +kernel)
set_option maxRecDepth 100000 in
theorem new10_in : Cond.classLink "HandsForAWheelLaw" 10 (kNm 9) ∈ lw_tbl := List.mem_of_getElem? (i := 949) (by decide +kernel)
def nest_at : List Nat := [101, 154, 176, 194, 220, 262, 282, 287]
set_option maxRecDepth 100000 in
theorem nest_in : (List.range nls.length).all (fun k => match nls[k]? with
  | some q => decide (lw_tbl[nest_at.getD k 0]? = some (.methodLinkNest (kNm q.1) q.2.1 (md q.2.2).1 "HandsForAWheel"))
  | none => false) = true := by decide +kernel
def tgs : List Nat := [264, 287, 300, 343, 396, 429, 472, 515, 538, 561, 574, 637, 700, 763, 806, 849, 902, 955, 1008, 1061, 1114, 1157, 1232, 1265, 1288, 1321, 1344, 1387, 1410, 1423, 1446, 1469, 1512, 1545, 1620, 1663, 1706, 1759, 1802, 1835, 1878, 1921, 1964, 2007, 2050, 2103, 2156, 2189, 2212, 2245, 2258, 2333, 2346, 2359]
def offs_ : Array Int := #[231, 254, 267, 310, 363, 396, 439, 482, 505, 528, 541, 604, 667, 730, 773, 816, 869, 922, 975, 1028, 1081, 1124, 1199, 1232, 1255, 1288, 1311, 1354, 1377, 1390, 1413, 1436, 1479, 1512, 1587, 1630, 1673, 1726, 1769, 1802, 1845, 1888, 1931, 1974, 2017, 2070, 2123, 2156, 2179, 2212, 2225, 2300, 2313, 2326]
set_option maxRecDepth 100000 in
theorem d_sw : decode code 33 = .ok (.tableswitch 2349 0 53 offs_, 231) := by decide +kernel
theorem sw_ok : (List.range 54).all (fun j => decide (offs_[j]? = some (((tgs.getD j 0 : Nat) : Int) - 33))) = true := by decide +kernel
theorem d_law_0 : decode code 0 = .ok (.new 7, 3) := by decide +kernel
theorem d_law_3 : decode code 3 = .ok (.dup, 1) := by decide +kernel
theorem d_law_4 : decode code 4 = .ok (.invokespecial 9, 3) := by decide +kernel
theorem d_law_7 : decode code 7 = .ok (.astore_n 1, 1) := by decide +kernel
theorem d_law_8 : decode code 8 = .ok (.new 10, 3) := by decide +kernel
theorem d_law_11 : decode code 11 = .ok (.dup, 1) := by decide +kernel
theorem d_law_12 : decode code 12 = .ok (.invokespecial 12, 3) := by decide +kernel
theorem d_law_15 : decode code 15 = .ok (.astore_n 2, 1) := by decide +kernel
theorem d_law_16 : decode code 16 = .ok (.iconst 0, 1) := by decide +kernel
theorem d_law_17 : decode code 17 = .ok (.istore_n 3, 1) := by decide +kernel
theorem d_law_18 : decode code 18 = .ok (.iload_n 3, 1) := by decide +kernel
theorem d_law_19 : decode code 19 = .ok (.aload_n 0, 1) := by decide +kernel
theorem d_law_20 : decode code 20 = .ok (.arraylength, 1) := by decide +kernel
theorem d_law_21 : decode code 21 = .ok (.bipush 7, 2) := by decide +kernel
theorem d_law_23 : decode code 23 = .ok (.isub, 1) := by decide +kernel
theorem d_law_24 : decode code 24 = .ok (.if_icmp .gt 2364, 3) := by decide +kernel
theorem d_law_27 : decode code 27 = .ok (.aload_n 0, 1) := by decide +kernel
theorem d_law_28 : decode code 28 = .ok (.iload_n 3, 1) := by decide +kernel
theorem d_law_29 : decode code 29 = .ok (.iaload, 1) := by decide +kernel
theorem d_law_30 : decode code 30 = .ok (.bipush 63, 2) := by decide +kernel
theorem d_law_32 : decode code 32 = .ok (.iand, 1) := by decide +kernel
theorem d_law_2382 : decode code 2382 = .ok (.iinc 3 7, 3) := by decide +kernel
theorem d_law_2385 : decode code 2385 = .ok (.goto (-2367), 3) := by decide +kernel
theorem d_law_2388 : decode code 2388 = .ok (.iconst 1, 1) := by decide +kernel
theorem d_law_2389 : decode code 2389 = .ok (.ireturn, 1) := by decide +kernel
