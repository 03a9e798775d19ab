/-! the law's switch, row by row -/
theorem ck_letter : lck 200 1 13 17 m_lt_letter m_mo_letter 319 1042 false = true := by decide +kernel
theorem ck_passes : lck 223 2 18 22 m_lt_passes m_mo_passes 335 1050 false = true := by decide +kernel
theorem ck_ranks : lck 256 2 23 26 m_lt_ranks m_mo_ranks 373 1075 false = true := by decide +kernel
theorem ck_of : lck 289 2 27 30 m_lt_of m_mo_of 385 1083 false = true := by decide +kernel
theorem ck_rules : lck 322 0 31 35 m_lt_rules m_mo_rules 393 1087 false = true := by decide +kernel
theorem ck_word : lck 335 0 36 39 m_lt_word m_mo_word 419 1107 false = true := by decide +kernel
theorem ck_at : lck 348 2 40 43 m_lt_at m_mo_at 477 1127 false = true := by decide +kernel
theorem ck_drop : lck 381 0 44 47 m_lt_drop m_mo_drop 497 1135 false = true := by decide +kernel
theorem ck_alike : lck 394 2 48 51 m_lt_alike m_mo_alike 505 1139 false = true := by decide +kernel
theorem ck_blocks : lck 427 2 52 55 m_lt_blocks m_mo_blocks 540 1162 false = true := by decide +kernel
theorem ck_least : lck 460 3 56 60 m_lt_least m_mo_least 563 1170 false = true := by decide +kernel
theorem ck_copies : lck 503 1 61 65 m_lt_copies m_mo_copies 568 1174 true = true := by decide +kernel
theorem ck_seen : lck 527 4 66 70 m_lt_seen m_mo_seen 603 1187 false = true := by decide +kernel
theorem ck_spread : lck 580 4 71 74 m_lt_spread m_mo_spread 612 1191 false = true := by decide +kernel
theorem ck_odds : lck 633 2 75 79 m_lt_odds m_mo_odds 621 1195 true = true := by decide +kernel
theorem ck_begins : lck 667 3 80 83 m_lt_begins m_mo_begins 634 1202 false = true := by decide +kernel
theorem ck_common : lck 710 3 84 87 m_lt_common m_mo_common 642 1210 false = true := by decide +kernel
theorem ck_product : lck 753 2 88 91 m_lt_product m_mo_product 651 1214 false = true := by decide +kernel
theorem ck_power : lck 786 2 92 95 m_lt_power m_mo_power 660 1218 false = true := by decide +kernel
theorem ck_changes : lck 819 2 96 99 m_lt_changes m_mo_changes 670 1223 false = true := by decide +kernel
theorem ck_root : lck 852 2 100 103 m_lt_root m_mo_root 674 1227 false = true := by decide +kernel
theorem ck_parts : lck 885 2 104 107 m_lt_parts m_mo_parts 694 1239 false = true := by decide +kernel
theorem ck_turned : lck 918 1 108 111 m_lt_turned m_mo_turned 711 1251 false = true := by decide +kernel
theorem ck_turn : lck 941 3 112 115 m_lt_turn m_mo_turn 763 1271 false = true := by decide +kernel
theorem ck_apart : lck 984 2 116 119 m_lt_apart m_mo_apart 771 1275 false = true := by decide +kernel
theorem ck_unlike : lck 1017 2 120 123 m_lt_unlike m_mo_unlike 779 1279 true = true := by decide +kernel
theorem ck_free : lck 1051 0 124 127 m_lt_free m_mo_free 792 1287 false = true := by decide +kernel
theorem ck_lots : lck 1064 4 128 131 m_lt_lots m_mo_lots 801 1291 false = true := by decide +kernel
theorem ck_list : lck 1117 2 132 135 m_lt_list m_mo_list 825 1298 false = true := by decide +kernel
theorem ck_put : lck 1150 3 136 139 m_lt_put m_mo_put 842 1305 false = true := by decide +kernel
theorem ck_look : lck 1193 2 140 143 m_lt_look m_mo_look 856 1309 true = true := by decide +kernel
theorem ck_from : lck 1227 3 144 147 m_lt_from m_mo_from 862 1315 false = true := by decide +kernel
theorem ck_lays : lck 1270 3 148 151 m_lt_lays m_mo_lays 872 1323 false = true := by decide +kernel
theorem ck_judge : lck 1313 2 152 155 m_lt_judge m_mo_judge 880 1327 false = true := by decide +kernel
theorem ck_undo : lck 1346 0 156 159 m_lt_undo m_mo_undo 885 1331 false = true := by decide +kernel
theorem ck_image : lck 1359 0 160 163 m_lt_image m_mo_image 897 1335 false = true := by decide +kernel
theorem ck_on : lck 1372 0 164 167 m_lt_on m_mo_on 905 1342 false = true := by decide +kernel
theorem ck_count : lck 1385 1 168 171 m_lt_count m_mo_count 913 1346 false = true := by decide +kernel
def loffs : Array Int := #[168, 191, 224, 257, 290, 303, 316, 349, 362, 395, 428, 471, 495, 548, 601, 635, 678, 721, 754, 787, 820, 853, 886, 909, 952, 985, 1019, 1032, 1085, 1118, 1161, 1195, 1238, 1281, 1314, 1327, 1340, 1353]
theorem l_rows {xs : Nat → Int32} {i : Nat} : ∀ k : Nat, k < 38 → ∃ (pc n idx idx' μ μ' pl pl' : Nat) (lg : Bool), loffs[k]? = some ((pc : Int) - 32) ∧ n ≤ 4 ∧ lck pc n idx idx' μ μ' pl pl' lg = true ∧ zPair μ μ' (las xs i n)
  | 0, _ => ⟨200, 1, 13, 17, m_lt_letter, m_mo_letter, 319, 1042, false, rfl, by decide, ck_letter, pr_letter (zr32_of _)⟩
  | 1, _ => ⟨223, 2, 18, 22, m_lt_passes, m_mo_passes, 335, 1050, false, rfl, by decide, ck_passes, pr_passes (zr32_of _) (zr32_of _)⟩
  | 2, _ => ⟨256, 2, 23, 26, m_lt_ranks, m_mo_ranks, 373, 1075, false, rfl, by decide, ck_ranks, pr_ranks (zr32_of _) (zr32_of _)⟩
  | 3, _ => ⟨289, 2, 27, 30, m_lt_of, m_mo_of, 385, 1083, false, rfl, by decide, ck_of, pr_of (zr32_of _) (zr32_of _)⟩
  | 4, _ => ⟨322, 0, 31, 35, m_lt_rules, m_mo_rules, 393, 1087, false, rfl, by decide, ck_rules, pr_rules ⟩
  | 5, _ => ⟨335, 0, 36, 39, m_lt_word, m_mo_word, 419, 1107, false, rfl, by decide, ck_word, pr_word ⟩
  | 6, _ => ⟨348, 2, 40, 43, m_lt_at, m_mo_at, 477, 1127, false, rfl, by decide, ck_at, pr_at (zr32_of _) (zr32_of _)⟩
  | 7, _ => ⟨381, 0, 44, 47, m_lt_drop, m_mo_drop, 497, 1135, false, rfl, by decide, ck_drop, pr_drop ⟩
  | 8, _ => ⟨394, 2, 48, 51, m_lt_alike, m_mo_alike, 505, 1139, false, rfl, by decide, ck_alike, pr_alike (zr32_of _) (zr32_of _)⟩
  | 9, _ => ⟨427, 2, 52, 55, m_lt_blocks, m_mo_blocks, 540, 1162, false, rfl, by decide, ck_blocks, pr_blocks (zr32_of _) (zr32_of _)⟩
  | 10, _ => ⟨460, 3, 56, 60, m_lt_least, m_mo_least, 563, 1170, false, rfl, by decide, ck_least, pr_least (zr32_of _) (zr32_of _) (zr32_of _)⟩
  | 11, _ => ⟨503, 1, 61, 65, m_lt_copies, m_mo_copies, 568, 1174, true, rfl, by decide, ck_copies, pr_copies (zr32_of _)⟩
  | 12, _ => ⟨527, 4, 66, 70, m_lt_seen, m_mo_seen, 603, 1187, false, rfl, by decide, ck_seen, pr_seen (zr32_of _) (zr32_of _) (zr32_of _) (zr32_of _)⟩
  | 13, _ => ⟨580, 4, 71, 74, m_lt_spread, m_mo_spread, 612, 1191, false, rfl, by decide, ck_spread, pr_spread (zr32_of _) (zr32_of _) (zr32_of _) (zr32_of _)⟩
  | 14, _ => ⟨633, 2, 75, 79, m_lt_odds, m_mo_odds, 621, 1195, true, rfl, by decide, ck_odds, pr_odds (zr32_of _) (zr32_of _)⟩
  | 15, _ => ⟨667, 3, 80, 83, m_lt_begins, m_mo_begins, 634, 1202, false, rfl, by decide, ck_begins, pr_begins (zr32_of _) (zr32_of _) (zr32_of _)⟩
  | 16, _ => ⟨710, 3, 84, 87, m_lt_common, m_mo_common, 642, 1210, false, rfl, by decide, ck_common, pr_common (zr32_of _) (zr32_of _) (zr32_of _)⟩
  | 17, _ => ⟨753, 2, 88, 91, m_lt_product, m_mo_product, 651, 1214, false, rfl, by decide, ck_product, pr_product (zr32_of _) (zr32_of _)⟩
  | 18, _ => ⟨786, 2, 92, 95, m_lt_power, m_mo_power, 660, 1218, false, rfl, by decide, ck_power, pr_power (zr32_of _) (zr32_of _)⟩
  | 19, _ => ⟨819, 2, 96, 99, m_lt_changes, m_mo_changes, 670, 1223, false, rfl, by decide, ck_changes, pr_changes (zr32_of _) (zr32_of _)⟩
  | 20, _ => ⟨852, 2, 100, 103, m_lt_root, m_mo_root, 674, 1227, false, rfl, by decide, ck_root, pr_root (zr32_of _) (zr32_of _)⟩
  | 21, _ => ⟨885, 2, 104, 107, m_lt_parts, m_mo_parts, 694, 1239, false, rfl, by decide, ck_parts, pr_parts (zr32_of _) (zr32_of _)⟩
  | 22, _ => ⟨918, 1, 108, 111, m_lt_turned, m_mo_turned, 711, 1251, false, rfl, by decide, ck_turned, pr_turned (zr32_of _)⟩
  | 23, _ => ⟨941, 3, 112, 115, m_lt_turn, m_mo_turn, 763, 1271, false, rfl, by decide, ck_turn, pr_turn (zr32_of _) (zr32_of _) (zr32_of _)⟩
  | 24, _ => ⟨984, 2, 116, 119, m_lt_apart, m_mo_apart, 771, 1275, false, rfl, by decide, ck_apart, pr_apart (zr32_of _) (zr32_of _)⟩
  | 25, _ => ⟨1017, 2, 120, 123, m_lt_unlike, m_mo_unlike, 779, 1279, true, rfl, by decide, ck_unlike, pr_unlike (zr32_of _) (zr32_of _)⟩
  | 26, _ => ⟨1051, 0, 124, 127, m_lt_free, m_mo_free, 792, 1287, false, rfl, by decide, ck_free, pr_free ⟩
  | 27, _ => ⟨1064, 4, 128, 131, m_lt_lots, m_mo_lots, 801, 1291, false, rfl, by decide, ck_lots, pr_lots (zr32_of _) (zr32_of _) (zr32_of _) (zr32_of _)⟩
  | 28, _ => ⟨1117, 2, 132, 135, m_lt_list, m_mo_list, 825, 1298, false, rfl, by decide, ck_list, pr_list (zr32_of _) (zr32_of _)⟩
  | 29, _ => ⟨1150, 3, 136, 139, m_lt_put, m_mo_put, 842, 1305, false, rfl, by decide, ck_put, pr_put (zr32_of _) (zr32_of _) (zr32_of _)⟩
  | 30, _ => ⟨1193, 2, 140, 143, m_lt_look, m_mo_look, 856, 1309, true, rfl, by decide, ck_look, pr_look (zr32_of _) (zr32_of _)⟩
  | 31, _ => ⟨1227, 3, 144, 147, m_lt_from, m_mo_from, 862, 1315, false, rfl, by decide, ck_from, pr_from (zr32_of _) (zr32_of _) (zr32_of _)⟩
  | 32, _ => ⟨1270, 3, 148, 151, m_lt_lays, m_mo_lays, 872, 1323, false, rfl, by decide, ck_lays, pr_lays (zr32_of _) (zr32_of _) (zr32_of _)⟩
  | 33, _ => ⟨1313, 2, 152, 155, m_lt_judge, m_mo_judge, 880, 1327, false, rfl, by decide, ck_judge, pr_judge (zr32_of _) (zr32_of _)⟩
  | 34, _ => ⟨1346, 0, 156, 159, m_lt_undo, m_mo_undo, 885, 1331, false, rfl, by decide, ck_undo, pr_undo ⟩
  | 35, _ => ⟨1359, 0, 160, 163, m_lt_image, m_mo_image, 897, 1335, false, rfl, by decide, ck_image, pr_image ⟩
  | 36, _ => ⟨1372, 0, 164, 167, m_lt_on, m_mo_on, 905, 1342, false, rfl, by decide, ck_on, pr_on ⟩
  | 37, _ => ⟨1385, 1, 168, 171, m_lt_count, m_mo_count, 913, 1346, false, rfl, by decide, ck_count, pr_count (zr32_of _)⟩
  | k + 38, h => by omega
