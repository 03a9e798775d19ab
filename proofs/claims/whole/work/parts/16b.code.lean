/-! stretches of code -/
set_option maxRecDepth 20000 in
theorem g_tu_sortCodes_0 {d : Nat} {M L : zM} {Q : Int → zW → Prop}  
    (h : zEx (d + 1) m_tu_sortCodes zb0 Q 2 ([zR 97, zI 0, zN, zN], [], SH, M, L)) :
    zEx (d + 1) m_tu_sortCodes zb0 Q 0 ([zR 97, zN, zN, zN], [], SH, M, L) := zEx_run [2, 25] 2 (by decide) (h)
set_option maxRecDepth 20000 in
theorem g_tu_sortCodes_2 {d : Nat} {M L : zM} {Q : Int → zW → Prop} {x1 : Int} {v2 v3 : zV} 
    (h : if x1 < M 97 8 then if x1 < 64 then zck (0 ≤ x1 ∧ x1 < 64) (zEx (d + 1) m_tu_sortCodes zb0 Q 25 ([zR 97, zI x1, zI (M 105 (Int.toNat x1)), zI x1], [], SH, M, L)) else Q 0 (SH, M, L) else Q 0 (SH, M, L)) :
    zEx (d + 1) m_tu_sortCodes zb0 Q 2 ([zR 97, zI x1, v2, v3], [], SH, M, L) := zEx_run [2, 25] 2 (by decide) (h)
set_option maxRecDepth 20000 in
theorem g_tu_sortCodes_25 {d : Nat} {M L : zM} {Q : Int → zW → Prop} {x1 x2 x3 : Int} 
    (h : if 0 < x3 then zck (0 ≤ zwr (x3 - 1) ∧ zwr (x3 - 1) < 64) (if x2 < M 107 (Int.toNat (zwr (x3 - 1))) then zck (0 ≤ zwr (x3 - 1) ∧ zwr (x3 - 1) < 64) (zck (0 ≤ x3 ∧ x3 < 64) (zEx (d + 1) m_tu_sortCodes zb0 Q 25 ([zR 97, zI x1, zI x2, zI (zwr (x3 + (-1)))], [], SH, (zmu M 107 (Int.toNat x3) (M 107 (Int.toNat (zwr (x3 - 1))))), L))) else zck (0 ≤ x3 ∧ x3 < 64) (zEx (d + 1) m_tu_sortCodes zb0 Q 2 ([zR 97, zI (zwr (x1 + 1)), zI x2, zI x3], [], SH, (zmu M 107 (Int.toNat x3) x2), L))) else zck (0 ≤ x3 ∧ x3 < 64) (zEx (d + 1) m_tu_sortCodes zb0 Q 2 ([zR 97, zI (zwr (x1 + 1)), zI x2, zI x3], [], SH, (zmu M 107 (Int.toNat x3) x2), L))) :
    zEx (d + 1) m_tu_sortCodes zb0 Q 25 ([zR 97, zI x1, zI x2, zI x3], [], SH, M, L) := zEx_run [2, 25] 3 (by decide) (h)
set_option maxRecDepth 20000 in
theorem g_tu_letterOf_0 {d : Nat} {M L : zM} {Q : Int → zW → Prop} {x1 x2 : Int} 
    (h : if x1 < 0 then Q (-9) (SH, M, L) else if x1 < M 97 8 then if x1 < 64 then zck (0 ≤ x1 ∧ x1 < 64) (zEv d m_tu_decode [zR 97, zI (M 107 (Int.toNat x1))] (SH, M, L) (fun _ w => zEx (d + 1) m_tu_letterOf zb0 Q 31 ([zR 97, zI x1, zI x2], [], w))) else Q (-9) (SH, M, L) else Q (-9) (SH, M, L)) :
    zEx (d + 1) m_tu_letterOf zb0 Q 0 ([zR 97, zI x1, zI x2], [], SH, M, L) := zEx_run [31, 39] 2 (by decide) (h)
set_option maxRecDepth 20000 in
theorem g_tu_letterOf_31 {d : Nat} {M L : zM} {Q : Int → zW → Prop} {x1 x2 : Int} 
    (h : zEv d m_ro_get [zR 101, zI x2] (SH, M, L) (fun x w => zEx (d + 1) m_tu_letterOf zb0 Q 39 ([zR 97, zI x1, zI x2], [zI x], w))) :
    zEx (d + 1) m_tu_letterOf zb0 Q 31 ([zR 97, zI x1, zI x2], [], SH, M, L) := zEx_run [31, 39] 2 (by decide) (h)
set_option maxRecDepth 20000 in
theorem g_tu_letterOf_39 {d : Nat} {M L : zM} {Q : Int → zW → Prop} {x1 x2 sx0 : Int} 
    (h : Q sx0 (SH, M, L)) :
    zEx (d + 1) m_tu_letterOf zb0 Q 39 ([zR 97, zI x1, zI x2], [zI sx0], SH, M, L) := zEx_run [31, 39] 2 (by decide) (h)
set_option maxRecDepth 20000 in
theorem g_tu_movesTo_0 {d : Nat} {M L : zM} {Q : Int → zW → Prop} {r1 : Nat} (hr1 : zRow r1)
    (h : zEv d m_be_arrange [zR 82, zR r1, zI 0, zR 103] (SH, M, L) (fun _ w => zEx (d + 1) m_tu_movesTo zb0 Q 13 ([zR 97, zR r1, zN], [], w))) :
    zEx (d + 1) m_tu_movesTo zb0 Q 0 ([zR 97, zR r1, zN], [], SH, M, L) := zEx_run [13, 21, 24] 2 (by decide) (h)
set_option maxRecDepth 20000 in
theorem g_tu_movesTo_13 {d : Nat} {M L : zM} {Q : Int → zW → Prop} {r1 : Nat} (hr1 : zRow r1)
    (h : zEv d m_tu_codeOf [zR 103] (SH, M, L) (fun x w => zEx (d + 1) m_tu_movesTo zb0 Q 21 ([zR 97, zR r1, zN], [zI x, zR 97], w))) :
    zEx (d + 1) m_tu_movesTo zb0 Q 13 ([zR 97, zR r1, zN], [], SH, M, L) := zEx_run [13, 21, 24] 2 (by decide) (h)
set_option maxRecDepth 20000 in
theorem g_tu_movesTo_21 {d : Nat} {M L : zM} {Q : Int → zW → Prop} {r1 : Nat} {sx0 : Int} (hr1 : zRow r1)
    (h : zEv d m_tu_find [zR 97, zI sx0] (SH, M, L) (fun x w => zEx (d + 1) m_tu_movesTo zb0 Q 24 ([zR 97, zR r1, zN], [zI x], w))) :
    zEx (d + 1) m_tu_movesTo zb0 Q 21 ([zR 97, zR r1, zN], [zI sx0, zR 97], SH, M, L) := zEx_run [13, 21, 24] 2 (by decide) (h)
set_option maxRecDepth 20000 in
theorem g_tu_movesTo_24 {d : Nat} {M L : zM} {Q : Int → zW → Prop} {r1 : Nat} {sx0 : Int} (hr1 : zRow r1)
    (h : if sx0 < 0 then Q (-9) (SH, M, L) else zck (0 ≤ sx0 ∧ sx0 < 64) (Q (M 106 (Int.toNat sx0)) (SH, M, L))) :
    zEx (d + 1) m_tu_movesTo zb0 Q 24 ([zR 97, zR r1, zN], [zI sx0], SH, M, L) := zEx_run [13, 21, 24] 3 (by decide) (h)
set_option maxRecDepth 20000 in
theorem g_tu_codeOf_0 {d : Nat} {M L : zM} {Q : Int → zW → Prop} {r0 : Nat} (hr0 : zRow r0)
    (h : zEx (d + 1) m_tu_codeOf zb0 Q 4 ([zR r0, zI 1, zI 0], [], SH, M, L)) :
    zEx (d + 1) m_tu_codeOf zb0 Q 0 ([zR r0, zN, zN], [], SH, M, L) := zEx_run [4, 9, 26] 2 (by decide) (h)
set_option maxRecDepth 20000 in
theorem g_tu_codeOf_4 {d : Nat} {M L : zM} {Q : Int → zW → Prop} {r0 : Nat} {x1 x2 : Int} (hr0 : zRow r0)
    (h : zEv d m_ro_size [zR r0] (SH, M, L) (fun x w => zEx (d + 1) m_tu_codeOf zb0 Q 9 ([zR r0, zI x1, zI x2], [zI x, zI x2], w))) :
    zEx (d + 1) m_tu_codeOf zb0 Q 4 ([zR r0, zI x1, zI x2], [], SH, M, L) := zEx_run [4, 9, 26] 2 (by decide) (zkq_i hr0.1 (h))
set_option maxRecDepth 20000 in
theorem g_tu_codeOf_9 {d : Nat} {M L : zM} {Q : Int → zW → Prop} {r0 : Nat} {x1 x2 sx0 sx1 : Int} (hr0 : zRow r0)
    (h : if sx1 < sx0 then if x2 < 7 then zEv d m_ro_get [zR r0, zI x2] (SH, M, L) (fun x w => zEx (d + 1) m_tu_codeOf zb0 Q 26 ([zR r0, zI x1, zI x2], [zI x, zI (zshl x1 3)], w)) else Q x1 (SH, M, L) else Q x1 (SH, M, L)) :
    zEx (d + 1) m_tu_codeOf zb0 Q 9 ([zR r0, zI x1, zI x2], [zI sx0, zI sx1], SH, M, L) := zEx_run [4, 9, 26] 2 (by decide) (zit (c := sx1 < sx0) h (fun h => zit (c := x2 < 7) h (fun h => zkq_i hr0.1 (h)) (fun h => h)) (fun h => h))
set_option maxRecDepth 20000 in
theorem g_tu_codeOf_26 {d : Nat} {M L : zM} {Q : Int → zW → Prop} {r0 : Nat} {x1 x2 sx0 sx1 : Int} (hr0 : zRow r0)
    (h : zEx (d + 1) m_tu_codeOf zb0 Q 4 ([zR r0, zI (zor sx1 sx0), zI (zwr (x2 + 1))], [], SH, M, L)) :
    zEx (d + 1) m_tu_codeOf zb0 Q 26 ([zR r0, zI x1, zI x2], [zI sx0, zI sx1], SH, M, L) := zEx_run [4, 9, 26] 2 (by decide) (h)
set_option maxRecDepth 20000 in
theorem g_tu_decode_0 {d : Nat} {M L : zM} {Q : Int → zW → Prop} {x1 : Int} 
    (h : zEv d m_ro_clear [zR 101] (SH, M, L) (fun _ w => zEx (d + 1) m_tu_decode zb0 Q 7 ([zR 97, zI x1, zN], [], w))) :
    zEx (d + 1) m_tu_decode zb0 Q 0 ([zR 97, zI x1, zN], [], SH, M, L) := zEx_run [7, 14, 33] 2 (by decide) (h)
set_option maxRecDepth 20000 in
theorem g_tu_decode_7 {d : Nat} {M L : zM} {Q : Int → zW → Prop} {x1 : Int} 
    (h : zEx (d + 1) m_tu_decode zb0 Q 14 ([zR 97, zI x1, zI (zwr ((M 97 9) - 1))], [], SH, M, L)) :
    zEx (d + 1) m_tu_decode zb0 Q 7 ([zR 97, zI x1, zN], [], SH, M, L) := zEx_run [7, 14, 33] 2 (by decide) (h)
set_option maxRecDepth 20000 in
theorem g_tu_decode_14 {d : Nat} {M L : zM} {Q : Int → zW → Prop} {x1 x2 : Int} 
    (h : if x2 < 0 then Q 0 (SH, M, L) else zEv d m_ro_add [zR 101, zI (zand (zshr x1 (zwr (3 * x2))) 7)] (SH, M, L) (fun _ w => zEx (d + 1) m_tu_decode zb0 Q 33 ([zR 97, zI x1, zI x2], [], w))) :
    zEx (d + 1) m_tu_decode zb0 Q 14 ([zR 97, zI x1, zI x2], [], SH, M, L) := zEx_run [7, 14, 33] 2 (by decide) (h)
set_option maxRecDepth 20000 in
theorem g_tu_decode_33 {d : Nat} {M L : zM} {Q : Int → zW → Prop} {x1 x2 : Int} 
    (h : zEx (d + 1) m_tu_decode zb0 Q 14 ([zR 97, zI x1, zI (zwr (x2 + (-1)))], [], SH, M, L)) :
    zEx (d + 1) m_tu_decode zb0 Q 33 ([zR 97, zI x1, zI x2], [], SH, M, L) := zEx_run [7, 14, 33] 2 (by decide) (h)
set_option maxRecDepth 20000 in
theorem g_lt_letter_0 {d : Nat} {M L : zM} {Q : Int → zW → Prop} {x1 : Int} 
    (h : if x1 < 0 then zEv d m_lt_refuse [zR 0, zI (-4)] (SH, M, L) (fun x w => zEx (d + 1) m_lt_letter zb0 Q 10 ([zR 0, zI x1], [zI x], w)) else if 255 < x1 then zEv d m_lt_refuse [zR 0, zI (-6)] (SH, M, L) (fun x w => zEx (d + 1) m_lt_letter zb0 Q 36 ([zR 0, zI x1], [zI x], w)) else zEv d m_ro_size [zR 64] (SH, M, L) (fun x w => zEx (d + 1) m_lt_letter zb0 Q 25 ([zR 0, zI x1], [zI x], w))) :
    zEx (d + 1) m_lt_letter zb0 Q 0 ([zR 0, zI x1], [], SH, M, L) := zEx_run [10, 25, 36, 45, 52] 3 (by decide) (h)
set_option maxRecDepth 20000 in
theorem g_lt_letter_10 {d : Nat} {M L : zM} {Q : Int → zW → Prop} {x1 sx0 : Int} 
    (h : Q sx0 (SH, M, L)) :
    zEx (d + 1) m_lt_letter zb0 Q 10 ([zR 0, zI x1], [zI sx0], SH, M, L) := zEx_run [10, 25, 36, 45, 52] 2 (by decide) (h)
set_option maxRecDepth 20000 in
theorem g_lt_letter_25 {d : Nat} {M L : zM} {Q : Int → zW → Prop} {x1 sx0 : Int} 
    (h : if sx0 < 72 then zEv d m_ro_add [zR 64, zI x1] (SH, M, L) (fun _ w => zEx (d + 1) m_lt_letter zb0 Q 45 ([zR 0, zI x1], [], w)) else zEv d m_lt_refuse [zR 0, zI (-6)] (SH, M, L) (fun x w => zEx (d + 1) m_lt_letter zb0 Q 36 ([zR 0, zI x1], [zI x], w))) :
    zEx (d + 1) m_lt_letter zb0 Q 25 ([zR 0, zI x1], [zI sx0], SH, M, L) := zEx_run [10, 25, 36, 45, 52] 2 (by decide) (h)
set_option maxRecDepth 20000 in
theorem g_lt_letter_36 {d : Nat} {M L : zM} {Q : Int → zW → Prop} {x1 sx0 : Int} 
    (h : Q sx0 (SH, M, L)) :
    zEx (d + 1) m_lt_letter zb0 Q 36 ([zR 0, zI x1], [zI sx0], SH, M, L) := zEx_run [10, 25, 36, 45, 52] 2 (by decide) (h)
set_option maxRecDepth 20000 in
theorem g_lt_letter_45 {d : Nat} {M L : zM} {Q : Int → zW → Prop} {x1 : Int} 
    (h : zEv d m_ro_size [zR 64] (SH, M, L) (fun x w => zEx (d + 1) m_lt_letter zb0 Q 52 ([zR 0, zI x1], [zI x], w))) :
    zEx (d + 1) m_lt_letter zb0 Q 45 ([zR 0, zI x1], [], SH, M, L) := zEx_run [10, 25, 36, 45, 52] 2 (by decide) (h)
set_option maxRecDepth 20000 in
theorem g_lt_letter_52 {d : Nat} {M L : zM} {Q : Int → zW → Prop} {x1 sx0 : Int} 
    (h : Q sx0 (SH, M, L)) :
    zEx (d + 1) m_lt_letter zb0 Q 52 ([zR 0, zI x1], [zI sx0], SH, M, L) := zEx_run [10, 25, 36, 45, 52] 2 (by decide) (h)
set_option maxRecDepth 20000 in
theorem g_lt_passes_0 {d : Nat} {M L : zM} {Q : Int → zW → Prop} {x1 x2 : Int} 
    (h : zEv d m_lt_notTwoLetters [zI x1, zI x2] (SH, M, L) (fun x w => zEx (d + 1) m_lt_passes zb0 Q 5 ([zR 0, zI x1, zI x2], [zI x], w))) :
    zEx (d + 1) m_lt_passes zb0 Q 0 ([zR 0, zI x1, zI x2], [], SH, M, L) := zEx_run [5, 13, 25, 34, 43, 46] 2 (by decide) (h)
set_option maxRecDepth 20000 in
theorem g_lt_passes_5 {d : Nat} {M L : zM} {Q : Int → zW → Prop} {x1 x2 sx0 : Int} 
    (h : if sx0 = 0 then zEv d m_hi_remember [zR 21, zR 1] (SH, M, L) (fun _ w => zEx (d + 1) m_lt_passes zb0 Q 25 ([zR 0, zI x1, zI x2], [], w)) else zEv d m_lt_refuse [zR 0, zI (-1)] (SH, M, L) (fun x w => zEx (d + 1) m_lt_passes zb0 Q 13 ([zR 0, zI x1, zI x2], [zI x], w))) :
    zEx (d + 1) m_lt_passes zb0 Q 5 ([zR 0, zI x1, zI x2], [zI sx0], SH, M, L) := zEx_run [5, 13, 25, 34, 43, 46] 2 (by decide) (h)
set_option maxRecDepth 20000 in
theorem g_lt_passes_13 {d : Nat} {M L : zM} {Q : Int → zW → Prop} {x1 x2 sx0 : Int} 
    (h : Q sx0 (SH, M, L)) :
    zEx (d + 1) m_lt_passes zb0 Q 13 ([zR 0, zI x1, zI x2], [zI sx0], SH, M, L) := zEx_run [5, 13, 25, 34, 43, 46] 2 (by decide) (h)
set_option maxRecDepth 20000 in
theorem g_lt_passes_25 {d : Nat} {M L : zM} {Q : Int → zW → Prop} {x1 x2 : Int} 
    (h : zEv d m_la_flip [zR 1, zI x1, zI x2] (SH, M, L) (fun _ w => zEx (d + 1) m_lt_passes zb0 Q 34 ([zR 0, zI x1, zI x2], [], w))) :
    zEx (d + 1) m_lt_passes zb0 Q 25 ([zR 0, zI x1, zI x2], [], SH, M, L) := zEx_run [5, 13, 25, 34, 43, 46] 2 (by decide) (h)
set_option maxRecDepth 20000 in
theorem g_lt_passes_34 {d : Nat} {M L : zM} {Q : Int → zW → Prop} {x1 x2 : Int} 
    (h : zEv d m_la_letPass [zR 1, zI x1, zI x2] (SH, M, L) (fun x w => zEx (d + 1) m_lt_passes zb0 Q 43 ([zR 0, zI x1, zI x2], [zI x], w))) :
    zEx (d + 1) m_lt_passes zb0 Q 34 ([zR 0, zI x1, zI x2], [], SH, M, L) := zEx_run [5, 13, 25, 34, 43, 46] 2 (by decide) (h)
set_option maxRecDepth 20000 in
theorem g_lt_passes_43 {d : Nat} {M L : zM} {Q : Int → zW → Prop} {x1 x2 sx0 : Int} 
    (h : zEv d m_lt_answer [zI sx0] (SH, M, L) (fun x w => zEx (d + 1) m_lt_passes zb0 Q 46 ([zR 0, zI x1, zI x2], [zI x], w))) :
    zEx (d + 1) m_lt_passes zb0 Q 43 ([zR 0, zI x1, zI x2], [zI sx0], SH, M, L) := zEx_run [5, 13, 25, 34, 43, 46] 2 (by decide) (h)
set_option maxRecDepth 20000 in
theorem g_lt_passes_46 {d : Nat} {M L : zM} {Q : Int → zW → Prop} {x1 x2 sx0 : Int} 
    (h : Q sx0 (SH, M, L)) :
    zEx (d + 1) m_lt_passes zb0 Q 46 ([zR 0, zI x1, zI x2], [zI sx0], SH, M, L) := zEx_run [5, 13, 25, 34, 43, 46] 2 (by decide) (h)
set_option maxRecDepth 20000 in
theorem g_lt_ranks_0 {d : Nat} {M L : zM} {Q : Int → zW → Prop} {x1 x2 : Int} 
    (h : zEv d m_lt_notTwoLetters [zI x1, zI x2] (SH, M, L) (fun x w => zEx (d + 1) m_lt_ranks zb0 Q 5 ([zR 0, zI x1, zI x2], [zI x], w))) :
    zEx (d + 1) m_lt_ranks zb0 Q 0 ([zR 0, zI x1, zI x2], [], SH, M, L) := zEx_run [5, 13, 25, 34, 42] 2 (by decide) (h)
set_option maxRecDepth 20000 in
theorem g_lt_ranks_5 {d : Nat} {M L : zM} {Q : Int → zW → Prop} {x1 x2 sx0 : Int} 
    (h : if sx0 = 0 then zEv d m_hi_remember [zR 21, zR 1] (SH, M, L) (fun _ w => zEx (d + 1) m_lt_ranks zb0 Q 25 ([zR 0, zI x1, zI x2], [], w)) else zEv d m_lt_refuse [zR 0, zI (-1)] (SH, M, L) (fun x w => zEx (d + 1) m_lt_ranks zb0 Q 13 ([zR 0, zI x1, zI x2], [zI x], w))) :
    zEx (d + 1) m_lt_ranks zb0 Q 5 ([zR 0, zI x1, zI x2], [zI sx0], SH, M, L) := zEx_run [5, 13, 25, 34, 42] 2 (by decide) (h)
set_option maxRecDepth 20000 in
theorem g_lt_ranks_13 {d : Nat} {M L : zM} {Q : Int → zW → Prop} {x1 x2 sx0 : Int} 
    (h : Q sx0 (SH, M, L)) :
    zEx (d + 1) m_lt_ranks zb0 Q 13 ([zR 0, zI x1, zI x2], [zI sx0], SH, M, L) := zEx_run [5, 13, 25, 34, 42] 2 (by decide) (h)
set_option maxRecDepth 20000 in
theorem g_lt_ranks_25 {d : Nat} {M L : zM} {Q : Int → zW → Prop} {x1 x2 : Int} 
    (h : zEv d m_la_swapRanks [zR 1, zI x1, zI x2] (SH, M, L) (fun _ w => zEx (d + 1) m_lt_ranks zb0 Q 34 ([zR 0, zI x1, zI x2], [], w))) :
    zEx (d + 1) m_lt_ranks zb0 Q 25 ([zR 0, zI x1, zI x2], [], SH, M, L) := zEx_run [5, 13, 25, 34, 42] 2 (by decide) (h)
set_option maxRecDepth 20000 in
theorem g_lt_ranks_34 {d : Nat} {M L : zM} {Q : Int → zW → Prop} {x1 x2 : Int} 
    (h : zEv d m_la_rankOf [zR 1, zI x1] (SH, M, L) (fun x w => zEx (d + 1) m_lt_ranks zb0 Q 42 ([zR 0, zI x1, zI x2], [zI x], w))) :
    zEx (d + 1) m_lt_ranks zb0 Q 34 ([zR 0, zI x1, zI x2], [], SH, M, L) := zEx_run [5, 13, 25, 34, 42] 2 (by decide) (h)
set_option maxRecDepth 20000 in
theorem g_lt_ranks_42 {d : Nat} {M L : zM} {Q : Int → zW → Prop} {x1 x2 sx0 : Int} 
    (h : Q sx0 (SH, M, L)) :
    zEx (d + 1) m_lt_ranks zb0 Q 42 ([zR 0, zI x1, zI x2], [zI sx0], SH, M, L) := zEx_run [5, 13, 25, 34, 42] 2 (by decide) (h)
set_option maxRecDepth 20000 in
theorem g_lt_of_0 {d : Nat} {M L : zM} {Q : Int → zW → Prop} {x1 x2 : Int} 
    (h : zEv d m_lt_noLetter [zI x1] (SH, M, L) (fun x w => zEx (d + 1) m_lt_of zb0 Q 4 ([zR 0, zI x1, zI x2], [zI x], w))) :
    zEx (d + 1) m_lt_of zb0 Q 0 ([zR 0, zI x1, zI x2], [], SH, M, L) := zEx_run [4, 12, 17, 26, 39, 50] 2 (by decide) (h)
set_option maxRecDepth 20000 in
theorem g_lt_of_4 {d : Nat} {M L : zM} {Q : Int → zW → Prop} {x1 x2 sx0 : Int} 
    (h : if sx0 = 0 then zEv d m_lt_noSuch [zI x2] (SH, M, L) (fun x w => zEx (d + 1) m_lt_of zb0 Q 17 ([zR 0, zI x1, zI x2], [zI x], w)) else zEv d m_lt_refuse [zR 0, zI (-1)] (SH, M, L) (fun x w => zEx (d + 1) m_lt_of zb0 Q 12 ([zR 0, zI x1, zI x2], [zI x], w))) :
    zEx (d + 1) m_lt_of zb0 Q 4 ([zR 0, zI x1, zI x2], [zI sx0], SH, M, L) := zEx_run [4, 12, 17, 26, 39, 50] 2 (by decide) (h)
set_option maxRecDepth 20000 in
theorem g_lt_of_12 {d : Nat} {M L : zM} {Q : Int → zW → Prop} {x1 x2 sx0 : Int} 
    (h : Q sx0 (SH, M, L)) :
    zEx (d + 1) m_lt_of zb0 Q 12 ([zR 0, zI x1, zI x2], [zI sx0], SH, M, L) := zEx_run [4, 12, 17, 26, 39, 50] 2 (by decide) (h)
set_option maxRecDepth 20000 in
theorem g_lt_of_17 {d : Nat} {M L : zM} {Q : Int → zW → Prop} {x1 x2 sx0 : Int} 
    (h : if sx0 = 0 then if x2 = 0 then zEv d m_la_rankOf [zR 1, zI x1] (SH, M, L) (fun x w => zEx (d + 1) m_lt_of zb0 Q 39 ([zR 0, zI x1, zI x2], [zI x], w)) else zEv d m_la_passedBy [zR 1, zI x1] (SH, M, L) (fun x w => zEx (d + 1) m_lt_of zb0 Q 50 ([zR 0, zI x1, zI x2], [zI x], w)) else zEv d m_lt_refuse [zR 0, zI (-2)] (SH, M, L) (fun x w => zEx (d + 1) m_lt_of zb0 Q 26 ([zR 0, zI x1, zI x2], [zI x], w))) :
    zEx (d + 1) m_lt_of zb0 Q 17 ([zR 0, zI x1, zI x2], [zI sx0], SH, M, L) := zEx_run [4, 12, 17, 26, 39, 50] 3 (by decide) (h)
set_option maxRecDepth 20000 in
theorem g_lt_of_26 {d : Nat} {M L : zM} {Q : Int → zW → Prop} {x1 x2 sx0 : Int} 
    (h : Q sx0 (SH, M, L)) :
    zEx (d + 1) m_lt_of zb0 Q 26 ([zR 0, zI x1, zI x2], [zI sx0], SH, M, L) := zEx_run [4, 12, 17, 26, 39, 50] 2 (by decide) (h)
set_option maxRecDepth 20000 in
theorem g_lt_of_39 {d : Nat} {M L : zM} {Q : Int → zW → Prop} {x1 x2 sx0 : Int} 
    (h : zEx (d + 1) m_lt_of zb0 Q 50 ([zR 0, zI x1, zI x2], [zI sx0], SH, M, L)) :
    zEx (d + 1) m_lt_of zb0 Q 39 ([zR 0, zI x1, zI x2], [zI sx0], SH, M, L) := zEx_run [4, 12, 17, 26, 39, 50] 2 (by decide) (h)
set_option maxRecDepth 20000 in
theorem g_lt_of_50 {d : Nat} {M L : zM} {Q : Int → zW → Prop} {x1 x2 sx0 : Int} 
    (h : Q sx0 (SH, M, L)) :
    zEx (d + 1) m_lt_of zb0 Q 50 ([zR 0, zI x1, zI x2], [zI sx0], SH, M, L) := zEx_run [4, 12, 17, 26, 39, 50] 2 (by decide) (h)
set_option maxRecDepth 20000 in
theorem g_lt_rules_0 {d : Nat} {M L : zM} {Q : Int → zW → Prop}  
    (h : zEv d m_la_copy [zR 4, zR 1] (SH, M, L) (fun _ w => zEx (d + 1) m_lt_rules zb0 Q 11 ([zR 0, zN], [], w))) :
    zEx (d + 1) m_lt_rules zb0 Q 0 ([zR 0, zN], [], SH, M, L) := zEx_run [11, 26, 34, 49, 60] 2 (by decide) (h)
set_option maxRecDepth 20000 in
theorem g_lt_rules_11 {d : Nat} {M L : zM} {Q : Int → zW → Prop}  
    (h : zEv d m_pa_readRules [zR 66, zR 64, zR 4] (SH, M, L) (fun x w => zEx (d + 1) m_lt_rules zb0 Q 26 ([zR 0, zN], [zI x], w))) :
    zEx (d + 1) m_lt_rules zb0 Q 11 ([zR 0, zN], [], SH, M, L) := zEx_run [11, 26, 34, 49, 60] 2 (by decide) (h)
set_option maxRecDepth 20000 in
theorem g_lt_rules_26 {d : Nat} {M L : zM} {Q : Int → zW → Prop} {sx0 : Int} 
    (h : zEv d m_ro_clear [zR 64] (SH, M, L) (fun _ w => zEx (d + 1) m_lt_rules zb0 Q 34 ([zR 0, zI sx0], [], w))) :
    zEx (d + 1) m_lt_rules zb0 Q 26 ([zR 0, zN], [zI sx0], SH, M, L) := zEx_run [11, 26, 34, 49, 60] 2 (by decide) (h)
set_option maxRecDepth 20000 in
theorem g_lt_rules_34 {d : Nat} {M L : zM} {Q : Int → zW → Prop} {x1 : Int} 
    (h : if 0 < x1 then zEv d m_hi_remember [zR 21, zR 1] (SH, M, L) (fun _ w => zEx (d + 1) m_lt_rules zb0 Q 49 ([zR 0, zI x1], [], w)) else zEx (d + 1) m_lt_rules zb0 Q 60 ([zR 0, zI x1], [], SH, M, L)) :
    zEx (d + 1) m_lt_rules zb0 Q 34 ([zR 0, zI x1], [], SH, M, L) := zEx_run [11, 26, 34, 49, 60] 2 (by decide) (h)
set_option maxRecDepth 20000 in
theorem g_lt_rules_49 {d : Nat} {M L : zM} {Q : Int → zW → Prop} {x1 : Int} 
    (h : zEv d m_la_copy [zR 1, zR 4] (SH, M, L) (fun _ w => zEx (d + 1) m_lt_rules zb0 Q 60 ([zR 0, zI x1], [], w))) :
    zEx (d + 1) m_lt_rules zb0 Q 49 ([zR 0, zI x1], [], SH, M, L) := zEx_run [11, 26, 34, 49, 60] 2 (by decide) (h)
set_option maxRecDepth 20000 in
theorem g_lt_rules_60 {d : Nat} {M L : zM} {Q : Int → zW → Prop} {x1 : Int} 
    (h : Q x1 (SH, M, L)) :
    zEx (d + 1) m_lt_rules zb0 Q 60 ([zR 0, zI x1], [], SH, M, L) := zEx_run [11, 26, 34, 49, 60] 2 (by decide) (h)
set_option maxRecDepth 20000 in
theorem g_lt_word_0 {d : Nat} {M L : zM} {Q : Int → zW → Prop}  
    (h : zEv d m_pa_readWord [zR 66, zR 64] (SH, M, L) (fun x w => zEx (d + 1) m_lt_word zb0 Q 11 ([zR 0, zN, zN], [zI x], w))) :
    zEx (d + 1) m_lt_word zb0 Q 0 ([zR 0, zN, zN], [], SH, M, L) := zEx_run [11, 19, 32, 37, 49, 64] 2 (by decide) (h)
set_option maxRecDepth 20000 in
theorem g_lt_word_11 {d : Nat} {M L : zM} {Q : Int → zW → Prop} {sx0 : Int} 
    (h : zEv d m_ro_clear [zR 64] (SH, M, L) (fun _ w => zEx (d + 1) m_lt_word zb0 Q 19 ([zR 0, zI sx0, zN], [], w))) :
    zEx (d + 1) m_lt_word zb0 Q 11 ([zR 0, zN, zN], [zI sx0], SH, M, L) := zEx_run [11, 19, 32, 37, 49, 64] 2 (by decide) (h)
set_option maxRecDepth 20000 in
theorem g_lt_word_19 {d : Nat} {M L : zM} {Q : Int → zW → Prop} {x1 : Int} 
    (h : if x1 < 0 then Q x1 (SH, M, L) else zEv d m_pa_told [zR 66] (SH, M, L) (fun x w => zEx (d + 1) m_lt_word zb0 Q 32 ([zR 0, zI x1, zN], [zR x.toNat], w))) :
    zEx (d + 1) m_lt_word zb0 Q 19 ([zR 0, zI x1, zN], [], SH, M, L) := zEx_run [11, 19, 32, 37, 49, 64] 2 (by decide) (h)
set_option maxRecDepth 20000 in
theorem g_lt_word_32 {d : Nat} {M L : zM} {Q : Int → zW → Prop} {x1 : Int} {sr0 : Nat} (hsr0 : zRow sr0)
    (h : zEv d m_ro_size [zR sr0] (SH, M, L) (fun x w => zEx (d + 1) m_lt_word zb0 Q 37 ([zR 0, zI x1, zR sr0], [zI x], w))) :
    zEx (d + 1) m_lt_word zb0 Q 32 ([zR 0, zI x1, zN], [zR sr0], SH, M, L) := zEx_run [11, 19, 32, 37, 49, 64] 2 (by decide) (zkq_i hsr0.1 (h))
set_option maxRecDepth 20000 in
theorem g_lt_word_37 {d : Nat} {M L : zM} {Q : Int → zW → Prop} {x1 sx0 : Int} {r2 : Nat} (hr2 : zRow r2)
    (h : if 14 < sx0 then Q (-2000) (SH, M, L) else zEv d m_sh_isFull [zR 7] (SH, M, L) (fun x w => zEx (d + 1) m_lt_word zb0 Q 49 ([zR 0, zI x1, zR r2], [zI x], w))) :
    zEx (d + 1) m_lt_word zb0 Q 37 ([zR 0, zI x1, zR r2], [zI sx0], SH, M, L) := zEx_run [11, 19, 32, 37, 49, 64] 2 (by decide) (h)
set_option maxRecDepth 20000 in
theorem g_lt_word_49 {d : Nat} {M L : zM} {Q : Int → zW → Prop} {x1 sx0 : Int} {r2 : Nat} (hr2 : zRow r2)
    (h : if sx0 = 0 then zEv d m_sh_place [zR 7, zR r2] (SH, M, L) (fun x w => zEx (d + 1) m_lt_word zb0 Q 64 ([zR 0, zI x1, zR r2], [zI x], w)) else Q (-2000) (SH, M, L)) :
    zEx (d + 1) m_lt_word zb0 Q 49 ([zR 0, zI x1, zR r2], [zI sx0], SH, M, L) := zEx_run [11, 19, 32, 37, 49, 64] 2 (by decide) (h)
set_option maxRecDepth 20000 in
theorem g_lt_word_64 {d : Nat} {M L : zM} {Q : Int → zW → Prop} {x1 sx0 : Int} {r2 : Nat} (hr2 : zRow r2)
    (h : Q sx0 (SH, M, L)) :
    zEx (d + 1) m_lt_word zb0 Q 64 ([zR 0, zI x1, zR r2], [zI sx0], SH, M, L) := zEx_run [11, 19, 32, 37, 49, 64] 2 (by decide) (h)
set_option maxRecDepth 20000 in
theorem g_lt_at_0 {d : Nat} {M L : zM} {Q : Int → zW → Prop} {x1 x2 : Int} 
    (h : zEv d m_lt_noWord [zR 0, zI x1] (SH, M, L) (fun x w => zEx (d + 1) m_lt_at zb0 Q 5 ([zR 0, zI x1, zI x2], [zI x], w))) :
    zEx (d + 1) m_lt_at zb0 Q 0 ([zR 0, zI x1, zI x2], [], SH, M, L) := zEx_run [5, 13, 25, 34, 38] 2 (by decide) (h)
set_option maxRecDepth 20000 in
theorem g_lt_at_5 {d : Nat} {M L : zM} {Q : Int → zW → Prop} {x1 x2 sx0 : Int} 
    (h : if sx0 = 0 then if x2 < (-1) then zEv d m_lt_refuse [zR 0, zI (-4)] (SH, M, L) (fun x w => zEx (d + 1) m_lt_at zb0 Q 25 ([zR 0, zI x1, zI x2], [zI x], w)) else zEv d m_sh_row [zR 7, zI x1] (SH, M, L) (fun x w => zEx (d + 1) m_lt_at zb0 Q 34 ([zR 0, zI x1, zI x2], [zR x.toNat], w)) else zEv d m_lt_refuse [zR 0, zI (-1)] (SH, M, L) (fun x w => zEx (d + 1) m_lt_at zb0 Q 13 ([zR 0, zI x1, zI x2], [zI x], w))) :
    zEx (d + 1) m_lt_at zb0 Q 5 ([zR 0, zI x1, zI x2], [zI sx0], SH, M, L) := zEx_run [5, 13, 25, 34, 38] 3 (by decide) (h)
set_option maxRecDepth 20000 in
theorem g_lt_at_13 {d : Nat} {M L : zM} {Q : Int → zW → Prop} {x1 x2 sx0 : Int} 
    (h : Q sx0 (SH, M, L)) :
    zEx (d + 1) m_lt_at zb0 Q 13 ([zR 0, zI x1, zI x2], [zI sx0], SH, M, L) := zEx_run [5, 13, 25, 34, 38] 2 (by decide) (h)
set_option maxRecDepth 20000 in
theorem g_lt_at_25 {d : Nat} {M L : zM} {Q : Int → zW → Prop} {x1 x2 sx0 : Int} 
    (h : Q sx0 (SH, M, L)) :
    zEx (d + 1) m_lt_at zb0 Q 25 ([zR 0, zI x1, zI x2], [zI sx0], SH, M, L) := zEx_run [5, 13, 25, 34, 38] 2 (by decide) (h)
set_option maxRecDepth 20000 in
theorem g_lt_at_34 {d : Nat} {M L : zM} {Q : Int → zW → Prop} {x1 x2 : Int} {sr0 : Nat} (hsr0 : zRow sr0)
    (h : zEv d m_lt_sizeOrCell [zR sr0, zI x2] (SH, M, L) (fun x w => zEx (d + 1) m_lt_at zb0 Q 38 ([zR 0, zI x1, zI x2], [zI x], w))) :
    zEx (d + 1) m_lt_at zb0 Q 34 ([zR 0, zI x1, zI x2], [zR sr0], SH, M, L) := zEx_run [5, 13, 25, 34, 38] 2 (by decide) (h)
set_option maxRecDepth 20000 in
theorem g_lt_at_38 {d : Nat} {M L : zM} {Q : Int → zW → Prop} {x1 x2 sx0 : Int} 
    (h : Q sx0 (SH, M, L)) :
    zEx (d + 1) m_lt_at zb0 Q 38 ([zR 0, zI x1, zI x2], [zI sx0], SH, M, L) := zEx_run [5, 13, 25, 34, 38] 2 (by decide) (h)
set_option maxRecDepth 20000 in
theorem g_lt_drop_0 {d : Nat} {M L : zM} {Q : Int → zW → Prop}  
    (h : zEv d m_sh_size [zR 7] (SH, M, L) (fun x w => zEx (d + 1) m_lt_drop zb0 Q 7 ([zR 0], [zI x], w))) :
    zEx (d + 1) m_lt_drop zb0 Q 0 ([zR 0], [], SH, M, L) := zEx_run [7, 16, 24, 31] 2 (by decide) (h)
set_option maxRecDepth 20000 in
theorem g_lt_drop_7 {d : Nat} {M L : zM} {Q : Int → zW → Prop} {sx0 : Int} 
    (h : if sx0 = 0 then zEv d m_lt_refuse [zR 0, zI (-3)] (SH, M, L) (fun x w => zEx (d + 1) m_lt_drop zb0 Q 16 ([zR 0], [zI x], w)) else zEv d m_sh_removeLast [zR 7] (SH, M, L) (fun _ w => zEx (d + 1) m_lt_drop zb0 Q 24 ([zR 0], [], w))) :
    zEx (d + 1) m_lt_drop zb0 Q 7 ([zR 0], [zI sx0], SH, M, L) := zEx_run [7, 16, 24, 31] 2 (by decide) (h)
set_option maxRecDepth 20000 in
theorem g_lt_drop_16 {d : Nat} {M L : zM} {Q : Int → zW → Prop} {sx0 : Int} 
    (h : Q sx0 (SH, M, L)) :
    zEx (d + 1) m_lt_drop zb0 Q 16 ([zR 0], [zI sx0], SH, M, L) := zEx_run [7, 16, 24, 31] 2 (by decide) (h)
set_option maxRecDepth 20000 in
theorem g_lt_drop_24 {d : Nat} {M L : zM} {Q : Int → zW → Prop}  
    (h : zEv d m_sh_size [zR 7] (SH, M, L) (fun x w => zEx (d + 1) m_lt_drop zb0 Q 31 ([zR 0], [zI x], w))) :
    zEx (d + 1) m_lt_drop zb0 Q 24 ([zR 0], [], SH, M, L) := zEx_run [7, 16, 24, 31] 2 (by decide) (h)
set_option maxRecDepth 20000 in
theorem g_lt_drop_31 {d : Nat} {M L : zM} {Q : Int → zW → Prop} {sx0 : Int} 
    (h : Q sx0 (SH, M, L)) :
    zEx (d + 1) m_lt_drop zb0 Q 31 ([zR 0], [zI sx0], SH, M, L) := zEx_run [7, 16, 24, 31] 2 (by decide) (h)
set_option maxRecDepth 20000 in
theorem g_lt_alike_0 {d : Nat} {M L : zM} {Q : Int → zW → Prop} {x1 x2 : Int} 
    (h : zEv d m_lt_noWord [zR 0, zI x1] (SH, M, L) (fun x w => zEx (d + 1) m_lt_alike zb0 Q 5 ([zR 0, zI x1, zI x2], [zI x], w))) :
    zEx (d + 1) m_lt_alike zb0 Q 0 ([zR 0, zI x1, zI x2], [], SH, M, L) := zEx_run [5, 13, 21, 34, 42, 45, 48] 2 (by decide) (h)
set_option maxRecDepth 20000 in
theorem g_lt_alike_5 {d : Nat} {M L : zM} {Q : Int → zW → Prop} {x1 x2 sx0 : Int} 
    (h : if sx0 = 0 then zEv d m_lt_noWord [zR 0, zI x2] (SH, M, L) (fun x w => zEx (d + 1) m_lt_alike zb0 Q 13 ([zR 0, zI x1, zI x2], [zI x], w)) else zEv d m_lt_refuse [zR 0, zI (-1)] (SH, M, L) (fun x w => zEx (d + 1) m_lt_alike zb0 Q 21 ([zR 0, zI x1, zI x2], [zI x], w))) :
    zEx (d + 1) m_lt_alike zb0 Q 5 ([zR 0, zI x1, zI x2], [zI sx0], SH, M, L) := zEx_run [5, 13, 21, 34, 42, 45, 48] 2 (by decide) (h)
set_option maxRecDepth 20000 in
theorem g_lt_alike_13 {d : Nat} {M L : zM} {Q : Int → zW → Prop} {x1 x2 sx0 : Int} 
    (h : if sx0 = 0 then zEv d m_sh_row [zR 7, zI x1] (SH, M, L) (fun x w => zEx (d + 1) m_lt_alike zb0 Q 34 ([zR 0, zI x1, zI x2], [zR x.toNat, zR 82], w)) else zEv d m_lt_refuse [zR 0, zI (-1)] (SH, M, L) (fun x w => zEx (d + 1) m_lt_alike zb0 Q 21 ([zR 0, zI x1, zI x2], [zI x], w))) :
    zEx (d + 1) m_lt_alike zb0 Q 13 ([zR 0, zI x1, zI x2], [zI sx0], SH, M, L) := zEx_run [5, 13, 21, 34, 42, 45, 48] 2 (by decide) (h)
set_option maxRecDepth 20000 in
theorem g_lt_alike_21 {d : Nat} {M L : zM} {Q : Int → zW → Prop} {x1 x2 sx0 : Int} 
    (h : Q sx0 (SH, M, L)) :
    zEx (d + 1) m_lt_alike zb0 Q 21 ([zR 0, zI x1, zI x2], [zI sx0], SH, M, L) := zEx_run [5, 13, 21, 34, 42, 45, 48] 2 (by decide) (h)
set_option maxRecDepth 20000 in
theorem g_lt_alike_34 {d : Nat} {M L : zM} {Q : Int → zW → Prop} {x1 x2 : Int} {sr0 : Nat} (hsr0 : zRow sr0)
    (h : zEv d m_sh_row [zR 7, zI x2] (SH, M, L) (fun x w => zEx (d + 1) m_lt_alike zb0 Q 42 ([zR 0, zI x1, zI x2], [zR x.toNat, zR sr0, zR 82], w))) :
    zEx (d + 1) m_lt_alike zb0 Q 34 ([zR 0, zI x1, zI x2], [zR sr0, zR 82], SH, M, L) := zEx_run [5, 13, 21, 34, 42, 45, 48] 2 (by decide) (h)
set_option maxRecDepth 20000 in
theorem g_lt_alike_42 {d : Nat} {M L : zM} {Q : Int → zW → Prop} {x1 x2 : Int} {sr0 sr1 : Nat} (hsr0 : zRow sr0) (hsr1 : zRow sr1)
    (h : zEv d m_be_sameKind [zR 82, zR sr1, zR sr0] (SH, M, L) (fun x w => zEx (d + 1) m_lt_alike zb0 Q 45 ([zR 0, zI x1, zI x2], [zI x], w))) :
    zEx (d + 1) m_lt_alike zb0 Q 42 ([zR 0, zI x1, zI x2], [zR sr0, zR sr1, zR 82], SH, M, L) := zEx_run [5, 13, 21, 34, 42, 45, 48] 2 (by decide) (h)
set_option maxRecDepth 20000 in
theorem g_lt_alike_45 {d : Nat} {M L : zM} {Q : Int → zW → Prop} {x1 x2 sx0 : Int} 
    (h : zEv d m_lt_answer [zI sx0] (SH, M, L) (fun x w => zEx (d + 1) m_lt_alike zb0 Q 48 ([zR 0, zI x1, zI x2], [zI x], w))) :
    zEx (d + 1) m_lt_alike zb0 Q 45 ([zR 0, zI x1, zI x2], [zI sx0], SH, M, L) := zEx_run [5, 13, 21, 34, 42, 45, 48] 2 (by decide) (h)
set_option maxRecDepth 20000 in
theorem g_lt_alike_48 {d : Nat} {M L : zM} {Q : Int → zW → Prop} {x1 x2 sx0 : Int} 
    (h : Q sx0 (SH, M, L)) :
    zEx (d + 1) m_lt_alike zb0 Q 48 ([zR 0, zI x1, zI x2], [zI sx0], SH, M, L) := zEx_run [5, 13, 21, 34, 42, 45, 48] 2 (by decide) (h)
set_option maxRecDepth 20000 in
theorem g_lt_blocks_0 {d : Nat} {M L : zM} {Q : Int → zW → Prop} {x1 x2 : Int} 
    (h : zEv d m_lt_noWord [zR 0, zI x1] (SH, M, L) (fun x w => zEx (d + 1) m_lt_blocks zb0 Q 5 ([zR 0, zI x1, zI x2], [zI x], w))) :
    zEx (d + 1) m_lt_blocks zb0 Q 0 ([zR 0, zI x1, zI x2], [], SH, M, L) := zEx_run [5, 13, 25, 38, 45, 57, 66, 77] 2 (by decide) (h)
set_option maxRecDepth 20000 in
theorem g_lt_blocks_5 {d : Nat} {M L : zM} {Q : Int → zW → Prop} {x1 x2 sx0 : Int} 
    (h : if sx0 = 0 then if x2 < (-1) then zEv d m_lt_refuse [zR 0, zI (-4)] (SH, M, L) (fun x w => zEx (d + 1) m_lt_blocks zb0 Q 25 ([zR 0, zI x1, zI x2], [zI x], w)) else zEv d m_sh_row [zR 7, zI x1] (SH, M, L) (fun x w => zEx (d + 1) m_lt_blocks zb0 Q 38 ([zR 0, zI x1, zI x2], [zR x.toNat, zR 82], w)) else zEv d m_lt_refuse [zR 0, zI (-1)] (SH, M, L) (fun x w => zEx (d + 1) m_lt_blocks zb0 Q 13 ([zR 0, zI x1, zI x2], [zI x], w))) :
    zEx (d + 1) m_lt_blocks zb0 Q 5 ([zR 0, zI x1, zI x2], [zI sx0], SH, M, L) := zEx_run [5, 13, 25, 38, 45, 57, 66, 77] 3 (by decide) (h)
set_option maxRecDepth 20000 in
theorem g_lt_blocks_13 {d : Nat} {M L : zM} {Q : Int → zW → Prop} {x1 x2 sx0 : Int} 
    (h : Q sx0 (SH, M, L)) :
    zEx (d + 1) m_lt_blocks zb0 Q 13 ([zR 0, zI x1, zI x2], [zI sx0], SH, M, L) := zEx_run [5, 13, 25, 38, 45, 57, 66, 77] 2 (by decide) (h)
set_option maxRecDepth 20000 in
theorem g_lt_blocks_25 {d : Nat} {M L : zM} {Q : Int → zW → Prop} {x1 x2 sx0 : Int} 
    (h : Q sx0 (SH, M, L)) :
    zEx (d + 1) m_lt_blocks zb0 Q 25 ([zR 0, zI x1, zI x2], [zI sx0], SH, M, L) := zEx_run [5, 13, 25, 38, 45, 57, 66, 77] 2 (by decide) (h)
set_option maxRecDepth 20000 in
theorem g_lt_blocks_38 {d : Nat} {M L : zM} {Q : Int → zW → Prop} {x1 x2 : Int} {sr0 : Nat} (hsr0 : zRow sr0)
    (h : zEv d m_be_layBlocks [zR 82, zR sr0, zR 108] (SH, M, L) (fun _ w => zEx (d + 1) m_lt_blocks zb0 Q 45 ([zR 0, zI x1, zI x2], [], w))) :
    zEx (d + 1) m_lt_blocks zb0 Q 38 ([zR 0, zI x1, zI x2], [zR sr0, zR 82], SH, M, L) := zEx_run [5, 13, 25, 38, 45, 57, 66, 77] 2 (by decide) (h)
set_option maxRecDepth 20000 in
theorem g_lt_blocks_45 {d : Nat} {M L : zM} {Q : Int → zW → Prop} {x1 x2 : Int} 
    (h : if x2 = (-1) then zEv d m_ro_size [zR 108] (SH, M, L) (fun x w => zEx (d + 1) m_lt_blocks zb0 Q 57 ([zR 0, zI x1, zI x2], [zI x], w)) else zEv d m_ro_size [zR 108] (SH, M, L) (fun x w => zEx (d + 1) m_lt_blocks zb0 Q 66 ([zR 0, zI x1, zI x2], [zI x, zI x2], w))) :
    zEx (d + 1) m_lt_blocks zb0 Q 45 ([zR 0, zI x1, zI x2], [], SH, M, L) := zEx_run [5, 13, 25, 38, 45, 57, 66, 77] 2 (by decide) (h)
set_option maxRecDepth 20000 in
theorem g_lt_blocks_57 {d : Nat} {M L : zM} {Q : Int → zW → Prop} {x1 x2 sx0 : Int} 
    (h : Q sx0 (SH, M, L)) :
    zEx (d + 1) m_lt_blocks zb0 Q 57 ([zR 0, zI x1, zI x2], [zI sx0], SH, M, L) := zEx_run [5, 13, 25, 38, 45, 57, 66, 77] 2 (by decide) (h)
set_option maxRecDepth 20000 in
theorem g_lt_blocks_66 {d : Nat} {M L : zM} {Q : Int → zW → Prop} {x1 x2 sx0 sx1 : Int} 
    (h : if sx1 < sx0 then zEv d m_ro_get [zR 108, zI x2] (SH, M, L) (fun x w => zEx (d + 1) m_lt_blocks zb0 Q 77 ([zR 0, zI x1, zI x2], [zI x], w)) else Q 0 (SH, M, L)) :
    zEx (d + 1) m_lt_blocks zb0 Q 66 ([zR 0, zI x1, zI x2], [zI sx0, zI sx1], SH, M, L) := zEx_run [5, 13, 25, 38, 45, 57, 66, 77] 3 (by decide) (h)
set_option maxRecDepth 20000 in
theorem g_lt_blocks_77 {d : Nat} {M L : zM} {Q : Int → zW → Prop} {x1 x2 sx0 : Int} 
    (h : Q sx0 (SH, M, L)) :
    zEx (d + 1) m_lt_blocks zb0 Q 77 ([zR 0, zI x1, zI x2], [zI sx0], SH, M, L) := zEx_run [5, 13, 25, 38, 45, 57, 66, 77] 2 (by decide) (h)
set_option maxRecDepth 20000 in
theorem g_lt_least_0 {d : Nat} {M L : zM} {Q : Int → zW → Prop} {x1 x2 x3 : Int} 
    (h : zEv d m_lt_noWord [zR 0, zI x1] (SH, M, L) (fun x w => zEx (d + 1) m_lt_least zb0 Q 5 ([zR 0, zI x1, zI x2, zI x3], [zI x], w))) :
    zEx (d + 1) m_lt_least zb0 Q 0 ([zR 0, zI x1, zI x2, zI x3], [], SH, M, L) := zEx_run [5, 13, 24, 29, 38, 51, 68, 76] 2 (by decide) (h)
set_option maxRecDepth 20000 in
theorem g_lt_least_5 {d : Nat} {M L : zM} {Q : Int → zW → Prop} {x1 x2 x3 sx0 : Int} 
    (h : if sx0 = 0 then if x2 < 0 then zEv d m_lt_refuse [zR 0, zI (-4)] (SH, M, L) (fun x w => zEx (d + 1) m_lt_least zb0 Q 24 ([zR 0, zI x1, zI x2, zI x3], [zI x], w)) else zEv d m_lt_noSuch [zI x3] (SH, M, L) (fun x w => zEx (d + 1) m_lt_least zb0 Q 29 ([zR 0, zI x1, zI x2, zI x3], [zI x], w)) else zEv d m_lt_refuse [zR 0, zI (-1)] (SH, M, L) (fun x w => zEx (d + 1) m_lt_least zb0 Q 13 ([zR 0, zI x1, zI x2, zI x3], [zI x], w))) :
    zEx (d + 1) m_lt_least zb0 Q 5 ([zR 0, zI x1, zI x2, zI x3], [zI sx0], SH, M, L) := zEx_run [5, 13, 24, 29, 38, 51, 68, 76] 3 (by decide) (h)
set_option maxRecDepth 20000 in
theorem g_lt_least_13 {d : Nat} {M L : zM} {Q : Int → zW → Prop} {x1 x2 x3 sx0 : Int} 
    (h : Q sx0 (SH, M, L)) :
    zEx (d + 1) m_lt_least zb0 Q 13 ([zR 0, zI x1, zI x2, zI x3], [zI sx0], SH, M, L) := zEx_run [5, 13, 24, 29, 38, 51, 68, 76] 2 (by decide) (h)
set_option maxRecDepth 20000 in
theorem g_lt_least_24 {d : Nat} {M L : zM} {Q : Int → zW → Prop} {x1 x2 x3 sx0 : Int} 
    (h : Q sx0 (SH, M, L)) :
    zEx (d + 1) m_lt_least zb0 Q 24 ([zR 0, zI x1, zI x2, zI x3], [zI sx0], SH, M, L) := zEx_run [5, 13, 24, 29, 38, 51, 68, 76] 2 (by decide) (h)
set_option maxRecDepth 20000 in
theorem g_lt_least_29 {d : Nat} {M L : zM} {Q : Int → zW → Prop} {x1 x2 x3 sx0 : Int} 
    (h : if sx0 = 0 then zEv d m_sh_row [zR 7, zI x1] (SH, M, L) (fun x w => zEx (d + 1) m_lt_least zb0 Q 51 ([zR 0, zI x1, zI x2, zI x3], [zR x.toNat, zR 82], w)) else zEv d m_lt_refuse [zR 0, zI (-2)] (SH, M, L) (fun x w => zEx (d + 1) m_lt_least zb0 Q 38 ([zR 0, zI x1, zI x2, zI x3], [zI x], w))) :
    zEx (d + 1) m_lt_least zb0 Q 29 ([zR 0, zI x1, zI x2, zI x3], [zI sx0], SH, M, L) := zEx_run [5, 13, 24, 29, 38, 51, 68, 76] 2 (by decide) (h)
set_option maxRecDepth 20000 in
theorem g_lt_least_38 {d : Nat} {M L : zM} {Q : Int → zW → Prop} {x1 x2 x3 sx0 : Int} 
    (h : Q sx0 (SH, M, L)) :
    zEx (d + 1) m_lt_least zb0 Q 38 ([zR 0, zI x1, zI x2, zI x3], [zI sx0], SH, M, L) := zEx_run [5, 13, 24, 29, 38, 51, 68, 76] 2 (by decide) (h)
set_option maxRecDepth 20000 in
theorem g_lt_least_51 {d : Nat} {M L : zM} {Q : Int → zW → Prop} {x1 x2 x3 : Int} {sr0 : Nat} (hsr0 : zRow sr0)
    (h : if x3 = 1 then zEv d m_be_arrange [zR 82, zR sr0, zI 1, zR 108] (SH, M, L) (fun _ w => zEx (d + 1) m_lt_least zb0 Q 68 ([zR 0, zI x1, zI x2, zI x3], [], w)) else zEv d m_be_arrange [zR 82, zR sr0, zI 0, zR 108] (SH, M, L) (fun _ w => zEx (d + 1) m_lt_least zb0 Q 68 ([zR 0, zI x1, zI x2, zI x3], [], w))) :
    zEx (d + 1) m_lt_least zb0 Q 51 ([zR 0, zI x1, zI x2, zI x3], [zR sr0, zR 82], SH, M, L) := zEx_run [5, 13, 24, 29, 38, 51, 68, 76] 3 (by decide) (h)
set_option maxRecDepth 20000 in
theorem g_lt_least_68 {d : Nat} {M L : zM} {Q : Int → zW → Prop} {x1 x2 x3 : Int} 
    (h : zEv d m_ro_get [zR 108, zI x2] (SH, M, L) (fun x w => zEx (d + 1) m_lt_least zb0 Q 76 ([zR 0, zI x1, zI x2, zI x3], [zI x], w))) :
    zEx (d + 1) m_lt_least zb0 Q 68 ([zR 0, zI x1, zI x2, zI x3], [], SH, M, L) := zEx_run [5, 13, 24, 29, 38, 51, 68, 76] 2 (by decide) (h)
set_option maxRecDepth 20000 in
theorem g_lt_least_76 {d : Nat} {M L : zM} {Q : Int → zW → Prop} {x1 x2 x3 sx0 : Int} 
    (h : Q sx0 (SH, M, L)) :
    zEx (d + 1) m_lt_least zb0 Q 76 ([zR 0, zI x1, zI x2, zI x3], [zI sx0], SH, M, L) := zEx_run [5, 13, 24, 29, 38, 51, 68, 76] 2 (by decide) (h)
set_option maxRecDepth 20000 in
theorem g_lt_copies_0 {d : Nat} {M L : zM} {Q : Int → zW → Prop} {x1 : Int} 
    (h : zEv d m_lt_noWord [zR 0, zI x1] (SH, M, L) (fun x w => zEx (d + 1) m_lt_copies zb0 Q 5 ([zR 0, zI x1], [zI x], w))) :
    zEx (d + 1) m_lt_copies zb0 Q 0 ([zR 0, zI x1], [], SH, M, L) := zEx_run [5, 13, 26, 33] 2 (by decide) (h)
set_option maxRecDepth 20000 in
theorem g_lt_copies_5 {d : Nat} {M L : zM} {Q : Int → zW → Prop} {x1 sx0 : Int} 
    (h : if sx0 = 0 then zEv d m_sh_row [zR 7, zI x1] (SH, M, L) (fun x w => zEx (d + 1) m_lt_copies zb0 Q 26 ([zR 0, zI x1], [zR x.toNat, zR 89], w)) else zEv d m_lt_refuseFar [zR 0, zI (-1)] (SH, M, L) (fun x w => zEx (d + 1) m_lt_copies zb0 Q 13 ([zR 0, zI x1], [zL x], w))) :
    zEx (d + 1) m_lt_copies zb0 Q 5 ([zR 0, zI x1], [zI sx0], SH, M, L) := zEx_run [5, 13, 26, 33] 2 (by decide) (h)
set_option maxRecDepth 20000 in
theorem g_lt_copies_13 {d : Nat} {M L : zM} {Q : Int → zW → Prop} {x1 sy0 : Int} 
    (h : Q sy0 (SH, M, L)) :
    zEx (d + 1) m_lt_copies zb0 Q 13 ([zR 0, zI x1], [zL sy0], SH, M, L) := zEx_run [5, 13, 26, 33] 2 (by decide) (h)
set_option maxRecDepth 20000 in
theorem g_lt_copies_26 {d : Nat} {M L : zM} {Q : Int → zW → Prop} {x1 : Int} {sr0 : Nat} (hsr0 : zRow sr0)
    (h : zEv d m_ta_countAlike [zR 89, zR sr0, zR 1] (SH, M, L) (fun x w => zEx (d + 1) m_lt_copies zb0 Q 33 ([zR 0, zI x1], [zL x], w))) :
    zEx (d + 1) m_lt_copies zb0 Q 26 ([zR 0, zI x1], [zR sr0, zR 89], SH, M, L) := zEx_run [5, 13, 26, 33] 2 (by decide) (h)
set_option maxRecDepth 20000 in
theorem g_lt_copies_33 {d : Nat} {M L : zM} {Q : Int → zW → Prop} {x1 sy0 : Int} 
    (h : Q sy0 (SH, M, L)) :
    zEx (d + 1) m_lt_copies zb0 Q 33 ([zR 0, zI x1], [zL sy0], SH, M, L) := zEx_run [5, 13, 26, 33] 2 (by decide) (h)
set_option maxRecDepth 20000 in
theorem g_lt_seen_0 {d : Nat} {M L : zM} {Q : Int → zW → Prop} {x1 x2 x3 x4 : Int} 
    (h : zEv d m_lt_noWord [zR 0, zI x1] (SH, M, L) (fun x w => zEx (d + 1) m_lt_seen zb0 Q 5 ([zR 0, zI x1, zI x2, zI x3, zI x4], [zI x], w))) :
    zEx (d + 1) m_lt_seen zb0 Q 0 ([zR 0, zI x1, zI x2, zI x3, zI x4], [], SH, M, L) := zEx_run [5, 12, 19, 27, 39, 47, 59, 69, 78] 2 (by decide) (h)
set_option maxRecDepth 20000 in
theorem g_lt_seen_5 {d : Nat} {M L : zM} {Q : Int → zW → Prop} {x1 x2 x3 x4 sx0 : Int} 
    (h : if sx0 = 0 then zEv d m_lt_noLetter [zI x2] (SH, M, L) (fun x w => zEx (d + 1) m_lt_seen zb0 Q 12 ([zR 0, zI x1, zI x2, zI x3, zI x4], [zI x], w)) else zEv d m_lt_refuse [zR 0, zI (-1)] (SH, M, L) (fun x w => zEx (d + 1) m_lt_seen zb0 Q 27 ([zR 0, zI x1, zI x2, zI x3, zI x4], [zI x], w))) :
    zEx (d + 1) m_lt_seen zb0 Q 5 ([zR 0, zI x1, zI x2, zI x3, zI x4], [zI sx0], SH, M, L) := zEx_run [5, 12, 19, 27, 39, 47, 59, 69, 78] 2 (by decide) (h)
set_option maxRecDepth 20000 in
theorem g_lt_seen_12 {d : Nat} {M L : zM} {Q : Int → zW → Prop} {x1 x2 x3 x4 sx0 : Int} 
    (h : if sx0 = 0 then zEv d m_lt_noLetter [zI x3] (SH, M, L) (fun x w => zEx (d + 1) m_lt_seen zb0 Q 19 ([zR 0, zI x1, zI x2, zI x3, zI x4], [zI x], w)) else zEv d m_lt_refuse [zR 0, zI (-1)] (SH, M, L) (fun x w => zEx (d + 1) m_lt_seen zb0 Q 27 ([zR 0, zI x1, zI x2, zI x3, zI x4], [zI x], w))) :
    zEx (d + 1) m_lt_seen zb0 Q 12 ([zR 0, zI x1, zI x2, zI x3, zI x4], [zI sx0], SH, M, L) := zEx_run [5, 12, 19, 27, 39, 47, 59, 69, 78] 2 (by decide) (h)
set_option maxRecDepth 20000 in
theorem g_lt_seen_19 {d : Nat} {M L : zM} {Q : Int → zW → Prop} {x1 x2 x3 x4 sx0 : Int} 
    (h : if sx0 = 0 then if x4 < 0 then zEv d m_lt_refuse [zR 0, zI (-4)] (SH, M, L) (fun x w => zEx (d + 1) m_lt_seen zb0 Q 39 ([zR 0, zI x1, zI x2, zI x3, zI x4], [zI x], w)) else zEv d m_ro_clear [zR 108] (SH, M, L) (fun _ w => zEx (d + 1) m_lt_seen zb0 Q 47 ([zR 0, zI x1, zI x2, zI x3, zI x4], [], w)) else zEv d m_lt_refuse [zR 0, zI (-1)] (SH, M, L) (fun x w => zEx (d + 1) m_lt_seen zb0 Q 27 ([zR 0, zI x1, zI x2, zI x3, zI x4], [zI x], w))) :
    zEx (d + 1) m_lt_seen zb0 Q 19 ([zR 0, zI x1, zI x2, zI x3, zI x4], [zI sx0], SH, M, L) := zEx_run [5, 12, 19, 27, 39, 47, 59, 69, 78] 3 (by decide) (h)
set_option maxRecDepth 20000 in
theorem g_lt_seen_27 {d : Nat} {M L : zM} {Q : Int → zW → Prop} {x1 x2 x3 x4 sx0 : Int} 
    (h : Q sx0 (SH, M, L)) :
    zEx (d + 1) m_lt_seen zb0 Q 27 ([zR 0, zI x1, zI x2, zI x3, zI x4], [zI sx0], SH, M, L) := zEx_run [5, 12, 19, 27, 39, 47, 59, 69, 78] 2 (by decide) (h)
set_option maxRecDepth 20000 in
theorem g_lt_seen_39 {d : Nat} {M L : zM} {Q : Int → zW → Prop} {x1 x2 x3 x4 sx0 : Int} 
    (h : Q sx0 (SH, M, L)) :
    zEx (d + 1) m_lt_seen zb0 Q 39 ([zR 0, zI x1, zI x2, zI x3, zI x4], [zI sx0], SH, M, L) := zEx_run [5, 12, 19, 27, 39, 47, 59, 69, 78] 2 (by decide) (h)
set_option maxRecDepth 20000 in
theorem g_lt_seen_47 {d : Nat} {M L : zM} {Q : Int → zW → Prop} {x1 x2 x3 x4 : Int} 
    (h : zEv d m_sh_row [zR 7, zI x1] (SH, M, L) (fun x w => zEx (d + 1) m_lt_seen zb0 Q 59 ([zR 0, zI x1, zI x2, zI x3, zI x4], [zR x.toNat, zR 108], w))) :
    zEx (d + 1) m_lt_seen zb0 Q 47 ([zR 0, zI x1, zI x2, zI x3, zI x4], [], SH, M, L) := zEx_run [5, 12, 19, 27, 39, 47, 59, 69, 78] 2 (by decide) (h)
set_option maxRecDepth 20000 in
theorem g_lt_seen_59 {d : Nat} {M L : zM} {Q : Int → zW → Prop} {x1 x2 x3 x4 : Int} {sr0 : Nat} (hsr0 : zRow sr0)
    (h : zEv d m_ro_appendOnly [zR 108, zR sr0, zI (zor (zshl 1 x2) (zshl 1 x3))] (SH, M, L) (fun _ w => zEx (d + 1) m_lt_seen zb0 Q 69 ([zR 0, zI x1, zI x2, zI x3, zI x4], [], w))) :
    zEx (d + 1) m_lt_seen zb0 Q 59 ([zR 0, zI x1, zI x2, zI x3, zI x4], [zR sr0, zR 108], SH, M, L) := zEx_run [5, 12, 19, 27, 39, 47, 59, 69, 78] 2 (by decide) (h)
set_option maxRecDepth 20000 in
theorem g_lt_seen_69 {d : Nat} {M L : zM} {Q : Int → zW → Prop} {x1 x2 x3 x4 : Int} 
    (h : zEv d m_ro_get [zR 108, zI x4] (SH, M, L) (fun x w => zEx (d + 1) m_lt_seen zb0 Q 78 ([zR 0, zI x1, zI x2, zI x3, zI x4], [zI x], w))) :
    zEx (d + 1) m_lt_seen zb0 Q 69 ([zR 0, zI x1, zI x2, zI x3, zI x4], [], SH, M, L) := zEx_run [5, 12, 19, 27, 39, 47, 59, 69, 78] 2 (by decide) (h)
set_option maxRecDepth 20000 in
theorem g_lt_seen_78 {d : Nat} {M L : zM} {Q : Int → zW → Prop} {x1 x2 x3 x4 sx0 : Int} 
    (h : Q sx0 (SH, M, L)) :
    zEx (d + 1) m_lt_seen zb0 Q 78 ([zR 0, zI x1, zI x2, zI x3, zI x4], [zI sx0], SH, M, L) := zEx_run [5, 12, 19, 27, 39, 47, 59, 69, 78] 2 (by decide) (h)
set_option maxRecDepth 20000 in
theorem g_lt_spread_0 {d : Nat} {M L : zM} {Q : Int → zW → Prop} {x1 x2 x3 x4 : Int} 
    (h : zEv d m_lt_noWord [zR 0, zI x1] (SH, M, L) (fun x w => zEx (d + 1) m_lt_spread zb0 Q 5 ([zR 0, zI x1, zI x2, zI x3, zI x4, zN, zN], [zI x], w))) :
    zEx (d + 1) m_lt_spread zb0 Q 0 ([zR 0, zI x1, zI x2, zI x3, zI x4, zN, zN], [], SH, M, L) := zEx_run [5, 12, 20, 31, 37, 46, 55, 64, 91, 97, 111] 2 (by decide) (h)
set_option maxRecDepth 20000 in
theorem g_lt_spread_5 {d : Nat} {M L : zM} {Q : Int → zW → Prop} {x1 x2 x3 x4 sx0 : Int} 
    (h : if sx0 = 0 then zEv d m_lt_noLetter [zI x2] (SH, M, L) (fun x w => zEx (d + 1) m_lt_spread zb0 Q 12 ([zR 0, zI x1, zI x2, zI x3, zI x4, zN, zN], [zI x], w)) else zEv d m_lt_refuse [zR 0, zI (-1)] (SH, M, L) (fun x w => zEx (d + 1) m_lt_spread zb0 Q 20 ([zR 0, zI x1, zI x2, zI x3, zI x4, zN, zN], [zI x], w))) :
    zEx (d + 1) m_lt_spread zb0 Q 5 ([zR 0, zI x1, zI x2, zI x3, zI x4, zN, zN], [zI sx0], SH, M, L) := zEx_run [5, 12, 20, 31, 37, 46, 55, 64, 91, 97, 111] 2 (by decide) (h)
set_option maxRecDepth 20000 in
theorem g_lt_spread_12 {d : Nat} {M L : zM} {Q : Int → zW → Prop} {x1 x2 x3 x4 sx0 : Int} 
    (h : if sx0 = 0 then if x3 < 0 then zEv d m_lt_refuse [zR 0, zI (-4)] (SH, M, L) (fun x w => zEx (d + 1) m_lt_spread zb0 Q 31 ([zR 0, zI x1, zI x2, zI x3, zI x4, zN, zN], [zI x], w)) else zEv d m_lt_noSuch [zI x4] (SH, M, L) (fun x w => zEx (d + 1) m_lt_spread zb0 Q 37 ([zR 0, zI x1, zI x2, zI x3, zI x4, zN, zN], [zI x], w)) else zEv d m_lt_refuse [zR 0, zI (-1)] (SH, M, L) (fun x w => zEx (d + 1) m_lt_spread zb0 Q 20 ([zR 0, zI x1, zI x2, zI x3, zI x4, zN, zN], [zI x], w))) :
    zEx (d + 1) m_lt_spread zb0 Q 12 ([zR 0, zI x1, zI x2, zI x3, zI x4, zN, zN], [zI sx0], SH, M, L) := zEx_run [5, 12, 20, 31, 37, 46, 55, 64, 91, 97, 111] 3 (by decide) (h)
set_option maxRecDepth 20000 in
theorem g_lt_spread_20 {d : Nat} {M L : zM} {Q : Int → zW → Prop} {x1 x2 x3 x4 sx0 : Int} 
    (h : Q sx0 (SH, M, L)) :
    zEx (d + 1) m_lt_spread zb0 Q 20 ([zR 0, zI x1, zI x2, zI x3, zI x4, zN, zN], [zI sx0], SH, M, L) := zEx_run [5, 12, 20, 31, 37, 46, 55, 64, 91, 97, 111] 2 (by decide) (h)
set_option maxRecDepth 20000 in
theorem g_lt_spread_31 {d : Nat} {M L : zM} {Q : Int → zW → Prop} {x1 x2 x3 x4 sx0 : Int} 
    (h : Q sx0 (SH, M, L)) :
    zEx (d + 1) m_lt_spread zb0 Q 31 ([zR 0, zI x1, zI x2, zI x3, zI x4, zN, zN], [zI sx0], SH, M, L) := zEx_run [5, 12, 20, 31, 37, 46, 55, 64, 91, 97, 111] 2 (by decide) (h)
set_option maxRecDepth 20000 in
theorem g_lt_spread_37 {d : Nat} {M L : zM} {Q : Int → zW → Prop} {x1 x2 x3 x4 sx0 : Int} 
    (h : if sx0 = 0 then zEv d m_sh_row [zR 7, zI x1] (SH, M, L) (fun x w => zEx (d + 1) m_lt_spread zb0 Q 55 ([zR 0, zI x1, zI x2, zI x3, zI x4, zN, zN], [zR x.toNat], w)) else zEv d m_lt_refuse [zR 0, zI (-2)] (SH, M, L) (fun x w => zEx (d + 1) m_lt_spread zb0 Q 46 ([zR 0, zI x1, zI x2, zI x3, zI x4, zN, zN], [zI x], w))) :
    zEx (d + 1) m_lt_spread zb0 Q 37 ([zR 0, zI x1, zI x2, zI x3, zI x4, zN, zN], [zI sx0], SH, M, L) := zEx_run [5, 12, 20, 31, 37, 46, 55, 64, 91, 97, 111] 2 (by decide) (h)
set_option maxRecDepth 20000 in
theorem g_lt_spread_46 {d : Nat} {M L : zM} {Q : Int → zW → Prop} {x1 x2 x3 x4 sx0 : Int} 
    (h : Q sx0 (SH, M, L)) :
    zEx (d + 1) m_lt_spread zb0 Q 46 ([zR 0, zI x1, zI x2, zI x3, zI x4, zN, zN], [zI sx0], SH, M, L) := zEx_run [5, 12, 20, 31, 37, 46, 55, 64, 91, 97, 111] 2 (by decide) (h)
set_option maxRecDepth 20000 in
theorem g_lt_spread_55 {d : Nat} {M L : zM} {Q : Int → zW → Prop} {x1 x2 x3 x4 : Int} {sr0 : Nat} (hsr0 : zRow sr0)
    (h : zEv d m_ro_placeOfTime [zR sr0, zI x2, zI x3] (SH, M, L) (fun x w => zEx (d + 1) m_lt_spread zb0 Q 64 ([zR 0, zI x1, zI x2, zI x3, zI x4, zR sr0, zN], [zI x], w))) :
    zEx (d + 1) m_lt_spread zb0 Q 55 ([zR 0, zI x1, zI x2, zI x3, zI x4, zN, zN], [zR sr0], SH, M, L) := zEx_run [5, 12, 20, 31, 37, 46, 55, 64, 91, 97, 111] 2 (by decide) (zkq_i hsr0.1 (h))
set_option maxRecDepth 20000 in
theorem g_lt_spread_64 {d : Nat} {M L : zM} {Q : Int → zW → Prop} {x1 x2 x3 x4 sx0 : Int} {r5 : Nat} (hr5 : zRow r5)
    (h : if sx0 < 0 then Q (-9) (SH, M, L) else if x4 = 0 then zEv d m_la_howManyTied [zR 1, zR r5, zI sx0, zI (-1)] (SH, M, L) (fun x w => zEx (d + 1) m_lt_spread zb0 Q 91 ([zR 0, zI x1, zI x2, zI x3, zI x4, zR r5, zI sx0], [zI x], w)) else zEv d m_ro_size [zR r5] (SH, M, L) (fun x w => zEx (d + 1) m_lt_spread zb0 Q 97 ([zR 0, zI x1, zI x2, zI x3, zI x4, zR r5, zI sx0], [zI x], w))) :
    zEx (d + 1) m_lt_spread zb0 Q 64 ([zR 0, zI x1, zI x2, zI x3, zI x4, zR r5, zN], [zI sx0], SH, M, L) := zEx_run [5, 12, 20, 31, 37, 46, 55, 64, 91, 97, 111] 3 (by decide) (zit (c := sx0 < 0) h (fun h => h) (fun h => zit (c := x4 = 0) h (fun h => h) (fun h => zkq_i hr5.1 (h))))
set_option maxRecDepth 20000 in
theorem g_lt_spread_91 {d : Nat} {M L : zM} {Q : Int → zW → Prop} {x1 x2 x3 x4 x6 sx0 : Int} {r5 : Nat} (hr5 : zRow r5)
    (h : Q sx0 (SH, M, L)) :
    zEx (d + 1) m_lt_spread zb0 Q 91 ([zR 0, zI x1, zI x2, zI x3, zI x4, zR r5, zI x6], [zI sx0], SH, M, L) := zEx_run [5, 12, 20, 31, 37, 46, 55, 64, 91, 97, 111] 2 (by decide) (h)
set_option maxRecDepth 20000 in
theorem g_lt_spread_97 {d : Nat} {M L : zM} {Q : Int → zW → Prop} {x1 x2 x3 x4 x6 sx0 : Int} {r5 : Nat} (hr5 : zRow r5)
    (h : zEv d m_la_howManyTied [zR 1, zR r5, zI x6, zI 1] (SH, M, L) (fun x w => zEx (d + 1) m_lt_spread zb0 Q 111 ([zR 0, zI x1, zI x2, zI x3, zI x4, zR r5, zI x6], [zI x, zI (zwr (sx0 - 1))], w))) :
    zEx (d + 1) m_lt_spread zb0 Q 97 ([zR 0, zI x1, zI x2, zI x3, zI x4, zR r5, zI x6], [zI sx0], SH, M, L) := zEx_run [5, 12, 20, 31, 37, 46, 55, 64, 91, 97, 111] 2 (by decide) (h)
set_option maxRecDepth 20000 in
theorem g_lt_spread_111 {d : Nat} {M L : zM} {Q : Int → zW → Prop} {x1 x2 x3 x4 x6 sx0 sx1 : Int} {r5 : Nat} (hr5 : zRow r5)
    (h : Q (zwr (sx1 - sx0)) (SH, M, L)) :
    zEx (d + 1) m_lt_spread zb0 Q 111 ([zR 0, zI x1, zI x2, zI x3, zI x4, zR r5, zI x6], [zI sx0, zI sx1], SH, M, L) := zEx_run [5, 12, 20, 31, 37, 46, 55, 64, 91, 97, 111] 2 (by decide) (h)
set_option maxRecDepth 20000 in
theorem g_lt_odds_0 {d : Nat} {M L : zM} {Q : Int → zW → Prop} {x1 x2 : Int} 
    (h : zEv d m_lt_noWord [zR 0, zI x1] (SH, M, L) (fun x w => zEx (d + 1) m_lt_odds zb0 Q 5 ([zR 0, zI x1, zI x2, zN, zN, zN, zN], [zI x], w))) :
    zEx (d + 1) m_lt_odds zb0 Q 0 ([zR 0, zI x1, zI x2, zN, zN, zN, zN], [], SH, M, L) := zEx_run [5, 13, 18, 27, 40, 43, 48, 58, 75] 2 (by decide) (h)
set_option maxRecDepth 20000 in
theorem g_lt_odds_5 {d : Nat} {M L : zM} {Q : Int → zW → Prop} {x1 x2 sx0 : Int} 
    (h : if sx0 = 0 then zEv d m_lt_noSuch [zI x2] (SH, M, L) (fun x w => zEx (d + 1) m_lt_odds zb0 Q 18 ([zR 0, zI x1, zI x2, zN, zN, zN, zN], [zI x], w)) else zEv d m_lt_refuseFar [zR 0, zI (-1)] (SH, M, L) (fun x w => zEx (d + 1) m_lt_odds zb0 Q 13 ([zR 0, zI x1, zI x2, zN, zN, zN, zN], [zL x], w))) :
    zEx (d + 1) m_lt_odds zb0 Q 5 ([zR 0, zI x1, zI x2, zN, zN, zN, zN], [zI sx0], SH, M, L) := zEx_run [5, 13, 18, 27, 40, 43, 48, 58, 75] 2 (by decide) (h)
set_option maxRecDepth 20000 in
theorem g_lt_odds_13 {d : Nat} {M L : zM} {Q : Int → zW → Prop} {x1 x2 sy0 : Int} 
    (h : Q sy0 (SH, M, L)) :
    zEx (d + 1) m_lt_odds zb0 Q 13 ([zR 0, zI x1, zI x2, zN, zN, zN, zN], [zL sy0], SH, M, L) := zEx_run [5, 13, 18, 27, 40, 43, 48, 58, 75] 2 (by decide) (h)
set_option maxRecDepth 20000 in
theorem g_lt_odds_18 {d : Nat} {M L : zM} {Q : Int → zW → Prop} {x1 x2 sx0 : Int} 
    (h : if sx0 = 0 then zEv d m_sh_row [zR 7, zI x1] (SH, M, L) (fun x w => zEx (d + 1) m_lt_odds zb0 Q 40 ([zR 0, zI x1, zI x2, zN, zN, zN, zN], [zR x.toNat, zR 1], w)) else zEv d m_lt_refuseFar [zR 0, zI (-2)] (SH, M, L) (fun x w => zEx (d + 1) m_lt_odds zb0 Q 27 ([zR 0, zI x1, zI x2, zN, zN, zN, zN], [zL x], w))) :
    zEx (d + 1) m_lt_odds zb0 Q 18 ([zR 0, zI x1, zI x2, zN, zN, zN, zN], [zI sx0], SH, M, L) := zEx_run [5, 13, 18, 27, 40, 43, 48, 58, 75] 2 (by decide) (h)
set_option maxRecDepth 20000 in
theorem g_lt_odds_27 {d : Nat} {M L : zM} {Q : Int → zW → Prop} {x1 x2 sy0 : Int} 
    (h : Q sy0 (SH, M, L)) :
    zEx (d + 1) m_lt_odds zb0 Q 27 ([zR 0, zI x1, zI x2, zN, zN, zN, zN], [zL sy0], SH, M, L) := zEx_run [5, 13, 18, 27, 40, 43, 48, 58, 75] 2 (by decide) (h)
set_option maxRecDepth 20000 in
theorem g_lt_odds_40 {d : Nat} {M L : zM} {Q : Int → zW → Prop} {x1 x2 : Int} {sr0 : Nat} (hsr0 : zRow sr0)
    (h : zEv d m_la_readyLetters [zR 1, zR sr0] (SH, M, L) (fun x w => zEx (d + 1) m_lt_odds zb0 Q 43 ([zR 0, zI x1, zI x2, zN, zN, zN, zN], [zI x], w))) :
    zEx (d + 1) m_lt_odds zb0 Q 40 ([zR 0, zI x1, zI x2, zN, zN, zN, zN], [zR sr0, zR 1], SH, M, L) := zEx_run [5, 13, 18, 27, 40, 43, 48, 58, 75] 2 (by decide) (h)
set_option maxRecDepth 20000 in
theorem g_lt_odds_43 {d : Nat} {M L : zM} {Q : Int → zW → Prop} {x1 x2 sx0 : Int} 
    (h : zEv d m_jd_bitCount [zI sx0] (SH, M, L) (fun x w => zEx (d + 1) m_lt_odds zb0 Q 48 ([zR 0, zI x1, zI x2, zI sx0, zN, zN, zN], [zI x], w))) :
    zEx (d + 1) m_lt_odds zb0 Q 43 ([zR 0, zI x1, zI x2, zN, zN, zN, zN], [zI sx0], SH, M, L) := zEx_run [5, 13, 18, 27, 40, 43, 48, 58, 75] 2 (by decide) (h)
set_option maxRecDepth 20000 in
theorem g_lt_odds_48 {d : Nat} {M L : zM} {Q : Int → zW → Prop} {x1 x2 x3 sx0 : Int} 
    (h : zEv d m_la_howManyLow [zR 1, zI x3] (SH, M, L) (fun x w => zEx (d + 1) m_lt_odds zb0 Q 58 ([zR 0, zI x1, zI x2, zI x3, zI sx0, zN, zN], [zI x], w))) :
    zEx (d + 1) m_lt_odds zb0 Q 48 ([zR 0, zI x1, zI x2, zI x3, zN, zN, zN], [zI sx0], SH, M, L) := zEx_run [5, 13, 18, 27, 40, 43, 48, 58, 75] 2 (by decide) (h)
set_option maxRecDepth 20000 in
theorem g_lt_odds_58 {d : Nat} {M L : zM} {Q : Int → zW → Prop} {x1 x2 x3 x4 sx0 : Int} 
    (h : if sx0 = 0 then Q x2 (SH, M, L) else zEv d m_lt_commonDivisor [zI sx0, zI x4] (SH, M, L) (fun x w => zEx (d + 1) m_lt_odds zb0 Q 75 ([zR 0, zI x1, zI x2, zI x3, zI x4, zI sx0, zN], [zI x], w))) :
    zEx (d + 1) m_lt_odds zb0 Q 58 ([zR 0, zI x1, zI x2, zI x3, zI x4, zN, zN], [zI sx0], SH, M, L) := zEx_run [5, 13, 18, 27, 40, 43, 48, 58, 75] 2 (by decide) (h)
set_option maxRecDepth 20000 in
theorem g_lt_odds_75 {d : Nat} {M L : zM} {Q : Int → zW → Prop} {x1 x2 x3 x4 x5 sx0 : Int} 
    (h : if x2 = 0 then zck (sx0 ≠ 0) (Q (zdiv x5 sx0) (SH, M, L)) else zck (sx0 ≠ 0) (Q (zdiv x4 sx0) (SH, M, L))) :
    zEx (d + 1) m_lt_odds zb0 Q 75 ([zR 0, zI x1, zI x2, zI x3, zI x4, zI x5, zN], [zI sx0], SH, M, L) := zEx_run [5, 13, 18, 27, 40, 43, 48, 58, 75] 3 (by decide) (h)
set_option maxRecDepth 20000 in
theorem g_lt_begins_0 {d : Nat} {M L : zM} {Q : Int → zW → Prop} {x1 x2 x3 : Int} 
    (h : zEv d m_lt_noWord [zR 0, zI x1] (SH, M, L) (fun x w => zEx (d + 1) m_lt_begins zb0 Q 5 ([zR 0, zI x1, zI x2, zI x3, zN], [zI x], w))) :
    zEx (d + 1) m_lt_begins zb0 Q 0 ([zR 0, zI x1, zI x2, zI x3, zN], [], SH, M, L) := zEx_run [5, 13, 21, 33, 46, 54, 61, 73, 87] 2 (by decide) (h)
set_option maxRecDepth 20000 in
theorem g_lt_begins_5 {d : Nat} {M L : zM} {Q : Int → zW → Prop} {x1 x2 x3 sx0 : Int} 
    (h : if sx0 = 0 then zEv d m_lt_noWord [zR 0, zI x2] (SH, M, L) (fun x w => zEx (d + 1) m_lt_begins zb0 Q 13 ([zR 0, zI x1, zI x2, zI x3, zN], [zI x], w)) else zEv d m_lt_refuse [zR 0, zI (-1)] (SH, M, L) (fun x w => zEx (d + 1) m_lt_begins zb0 Q 21 ([zR 0, zI x1, zI x2, zI x3, zN], [zI x], w))) :
    zEx (d + 1) m_lt_begins zb0 Q 5 ([zR 0, zI x1, zI x2, zI x3, zN], [zI sx0], SH, M, L) := zEx_run [5, 13, 21, 33, 46, 54, 61, 73, 87] 2 (by decide) (h)
set_option maxRecDepth 20000 in
theorem g_lt_begins_13 {d : Nat} {M L : zM} {Q : Int → zW → Prop} {x1 x2 x3 sx0 : Int} 
    (h : if sx0 = 0 then if x3 < (-1) then zEv d m_lt_refuse [zR 0, zI (-4)] (SH, M, L) (fun x w => zEx (d + 1) m_lt_begins zb0 Q 33 ([zR 0, zI x1, zI x2, zI x3, zN], [zI x], w)) else zEv d m_sh_row [zR 7, zI x1] (SH, M, L) (fun x w => zEx (d + 1) m_lt_begins zb0 Q 46 ([zR 0, zI x1, zI x2, zI x3, zN], [zR x.toNat, zR 82], w)) else zEv d m_lt_refuse [zR 0, zI (-1)] (SH, M, L) (fun x w => zEx (d + 1) m_lt_begins zb0 Q 21 ([zR 0, zI x1, zI x2, zI x3, zN], [zI x], w))) :
    zEx (d + 1) m_lt_begins zb0 Q 13 ([zR 0, zI x1, zI x2, zI x3, zN], [zI sx0], SH, M, L) := zEx_run [5, 13, 21, 33, 46, 54, 61, 73, 87] 3 (by decide) (h)
set_option maxRecDepth 20000 in
theorem g_lt_begins_21 {d : Nat} {M L : zM} {Q : Int → zW → Prop} {x1 x2 x3 sx0 : Int} 
    (h : Q sx0 (SH, M, L)) :
    zEx (d + 1) m_lt_begins zb0 Q 21 ([zR 0, zI x1, zI x2, zI x3, zN], [zI sx0], SH, M, L) := zEx_run [5, 13, 21, 33, 46, 54, 61, 73, 87] 2 (by decide) (h)
set_option maxRecDepth 20000 in
theorem g_lt_begins_33 {d : Nat} {M L : zM} {Q : Int → zW → Prop} {x1 x2 x3 sx0 : Int} 
    (h : Q sx0 (SH, M, L)) :
    zEx (d + 1) m_lt_begins zb0 Q 33 ([zR 0, zI x1, zI x2, zI x3, zN], [zI sx0], SH, M, L) := zEx_run [5, 13, 21, 33, 46, 54, 61, 73, 87] 2 (by decide) (h)
set_option maxRecDepth 20000 in
theorem g_lt_begins_46 {d : Nat} {M L : zM} {Q : Int → zW → Prop} {x1 x2 x3 : Int} {sr0 : Nat} (hsr0 : zRow sr0)
    (h : zEv d m_sh_row [zR 7, zI x2] (SH, M, L) (fun x w => zEx (d + 1) m_lt_begins zb0 Q 54 ([zR 0, zI x1, zI x2, zI x3, zN], [zR x.toNat, zR sr0, zR 82], w))) :
    zEx (d + 1) m_lt_begins zb0 Q 46 ([zR 0, zI x1, zI x2, zI x3, zN], [zR sr0, zR 82], SH, M, L) := zEx_run [5, 13, 21, 33, 46, 54, 61, 73, 87] 2 (by decide) (h)
set_option maxRecDepth 20000 in
theorem g_lt_begins_54 {d : Nat} {M L : zM} {Q : Int → zW → Prop} {x1 x2 x3 : Int} {sr0 sr1 : Nat} (hsr0 : zRow sr0) (hsr1 : zRow sr1)
    (h : zEv d m_be_takeBeginning [zR 82, zR sr1, zR sr0, zR 108] (SH, M, L) (fun x w => zEx (d + 1) m_lt_begins zb0 Q 61 ([zR 0, zI x1, zI x2, zI x3, zN], [zI x], w))) :
    zEx (d + 1) m_lt_begins zb0 Q 54 ([zR 0, zI x1, zI x2, zI x3, zN], [zR sr0, zR sr1, zR 82], SH, M, L) := zEx_run [5, 13, 21, 33, 46, 54, 61, 73, 87] 2 (by decide) (h)
set_option maxRecDepth 20000 in
theorem g_lt_begins_61 {d : Nat} {M L : zM} {Q : Int → zW → Prop} {x1 x2 x3 sx0 : Int} 
    (h : if x3 = (-1) then zEv d m_lt_answer [zI sx0] (SH, M, L) (fun x w => zEx (d + 1) m_lt_begins zb0 Q 73 ([zR 0, zI x1, zI x2, zI x3, zI sx0], [zI x], w)) else if sx0 = 0 then Q (-9) (SH, M, L) else zEv d m_ro_get [zR 108, zI x3] (SH, M, L) (fun x w => zEx (d + 1) m_lt_begins zb0 Q 87 ([zR 0, zI x1, zI x2, zI x3, zI sx0], [zI x], w))) :
    zEx (d + 1) m_lt_begins zb0 Q 61 ([zR 0, zI x1, zI x2, zI x3, zN], [zI sx0], SH, M, L) := zEx_run [5, 13, 21, 33, 46, 54, 61, 73, 87] 4 (by decide) (h)
set_option maxRecDepth 20000 in
theorem g_lt_begins_73 {d : Nat} {M L : zM} {Q : Int → zW → Prop} {x1 x2 x3 x4 sx0 : Int} 
    (h : Q sx0 (SH, M, L)) :
    zEx (d + 1) m_lt_begins zb0 Q 73 ([zR 0, zI x1, zI x2, zI x3, zI x4], [zI sx0], SH, M, L) := zEx_run [5, 13, 21, 33, 46, 54, 61, 73, 87] 2 (by decide) (h)
set_option maxRecDepth 20000 in
theorem g_lt_begins_87 {d : Nat} {M L : zM} {Q : Int → zW → Prop} {x1 x2 x3 x4 sx0 : Int} 
    (h : Q sx0 (SH, M, L)) :
    zEx (d + 1) m_lt_begins zb0 Q 87 ([zR 0, zI x1, zI x2, zI x3, zI x4], [zI sx0], SH, M, L) := zEx_run [5, 13, 21, 33, 46, 54, 61, 73, 87] 2 (by decide) (h)
set_option maxRecDepth 20000 in
theorem g_lt_common_0 {d : Nat} {M L : zM} {Q : Int → zW → Prop} {x1 x2 x3 : Int} 
    (h : zEv d m_lt_noWord [zR 0, zI x1] (SH, M, L) (fun x w => zEx (d + 1) m_lt_common zb0 Q 5 ([zR 0, zI x1, zI x2, zI x3], [zI x], w))) :
    zEx (d + 1) m_lt_common zb0 Q 0 ([zR 0, zI x1, zI x2, zI x3], [], SH, M, L) := zEx_run [5, 13, 21, 33, 46, 54, 61, 69] 2 (by decide) (h)
set_option maxRecDepth 20000 in
theorem g_lt_common_5 {d : Nat} {M L : zM} {Q : Int → zW → Prop} {x1 x2 x3 sx0 : Int} 
    (h : if sx0 = 0 then zEv d m_lt_noWord [zR 0, zI x2] (SH, M, L) (fun x w => zEx (d + 1) m_lt_common zb0 Q 13 ([zR 0, zI x1, zI x2, zI x3], [zI x], w)) else zEv d m_lt_refuse [zR 0, zI (-1)] (SH, M, L) (fun x w => zEx (d + 1) m_lt_common zb0 Q 21 ([zR 0, zI x1, zI x2, zI x3], [zI x], w))) :
    zEx (d + 1) m_lt_common zb0 Q 5 ([zR 0, zI x1, zI x2, zI x3], [zI sx0], SH, M, L) := zEx_run [5, 13, 21, 33, 46, 54, 61, 69] 2 (by decide) (h)
set_option maxRecDepth 20000 in
theorem g_lt_common_13 {d : Nat} {M L : zM} {Q : Int → zW → Prop} {x1 x2 x3 sx0 : Int} 
    (h : if sx0 = 0 then if x3 < (-1) then zEv d m_lt_refuse [zR 0, zI (-4)] (SH, M, L) (fun x w => zEx (d + 1) m_lt_common zb0 Q 33 ([zR 0, zI x1, zI x2, zI x3], [zI x], w)) else zEv d m_sh_row [zR 7, zI x1] (SH, M, L) (fun x w => zEx (d + 1) m_lt_common zb0 Q 46 ([zR 0, zI x1, zI x2, zI x3], [zR x.toNat, zR 82], w)) else zEv d m_lt_refuse [zR 0, zI (-1)] (SH, M, L) (fun x w => zEx (d + 1) m_lt_common zb0 Q 21 ([zR 0, zI x1, zI x2, zI x3], [zI x], w))) :
    zEx (d + 1) m_lt_common zb0 Q 13 ([zR 0, zI x1, zI x2, zI x3], [zI sx0], SH, M, L) := zEx_run [5, 13, 21, 33, 46, 54, 61, 69] 3 (by decide) (h)
set_option maxRecDepth 20000 in
theorem g_lt_common_21 {d : Nat} {M L : zM} {Q : Int → zW → Prop} {x1 x2 x3 sx0 : Int} 
    (h : Q sx0 (SH, M, L)) :
    zEx (d + 1) m_lt_common zb0 Q 21 ([zR 0, zI x1, zI x2, zI x3], [zI sx0], SH, M, L) := zEx_run [5, 13, 21, 33, 46, 54, 61, 69] 2 (by decide) (h)
set_option maxRecDepth 20000 in
theorem g_lt_common_33 {d : Nat} {M L : zM} {Q : Int → zW → Prop} {x1 x2 x3 sx0 : Int} 
    (h : Q sx0 (SH, M, L)) :
    zEx (d + 1) m_lt_common zb0 Q 33 ([zR 0, zI x1, zI x2, zI x3], [zI sx0], SH, M, L) := zEx_run [5, 13, 21, 33, 46, 54, 61, 69] 2 (by decide) (h)
set_option maxRecDepth 20000 in
theorem g_lt_common_46 {d : Nat} {M L : zM} {Q : Int → zW → Prop} {x1 x2 x3 : Int} {sr0 : Nat} (hsr0 : zRow sr0)
    (h : zEv d m_sh_row [zR 7, zI x2] (SH, M, L) (fun x w => zEx (d + 1) m_lt_common zb0 Q 54 ([zR 0, zI x1, zI x2, zI x3], [zR x.toNat, zR sr0, zR 82], w))) :
    zEx (d + 1) m_lt_common zb0 Q 46 ([zR 0, zI x1, zI x2, zI x3], [zR sr0, zR 82], SH, M, L) := zEx_run [5, 13, 21, 33, 46, 54, 61, 69] 2 (by decide) (h)
set_option maxRecDepth 20000 in
theorem g_lt_common_54 {d : Nat} {M L : zM} {Q : Int → zW → Prop} {x1 x2 x3 : Int} {sr0 sr1 : Nat} (hsr0 : zRow sr0) (hsr1 : zRow sr1)
    (h : zEv d m_be_takeCommon [zR 82, zR sr1, zR sr0, zR 108] (SH, M, L) (fun _ w => zEx (d + 1) m_lt_common zb0 Q 61 ([zR 0, zI x1, zI x2, zI x3], [], w))) :
    zEx (d + 1) m_lt_common zb0 Q 54 ([zR 0, zI x1, zI x2, zI x3], [zR sr0, zR sr1, zR 82], SH, M, L) := zEx_run [5, 13, 21, 33, 46, 54, 61, 69] 2 (by decide) (h)
set_option maxRecDepth 20000 in
theorem g_lt_common_61 {d : Nat} {M L : zM} {Q : Int → zW → Prop} {x1 x2 x3 : Int} 
    (h : zEv d m_lt_sizeOrCell [zR 108, zI x3] (SH, M, L) (fun x w => zEx (d + 1) m_lt_common zb0 Q 69 ([zR 0, zI x1, zI x2, zI x3], [zI x], w))) :
    zEx (d + 1) m_lt_common zb0 Q 61 ([zR 0, zI x1, zI x2, zI x3], [], SH, M, L) := zEx_run [5, 13, 21, 33, 46, 54, 61, 69] 2 (by decide) (h)
set_option maxRecDepth 20000 in
theorem g_lt_common_69 {d : Nat} {M L : zM} {Q : Int → zW → Prop} {x1 x2 x3 sx0 : Int} 
    (h : Q sx0 (SH, M, L)) :
    zEx (d + 1) m_lt_common zb0 Q 69 ([zR 0, zI x1, zI x2, zI x3], [zI sx0], SH, M, L) := zEx_run [5, 13, 21, 33, 46, 54, 61, 69] 2 (by decide) (h)
set_option maxRecDepth 20000 in
theorem g_lt_product_0 {d : Nat} {M L : zM} {Q : Int → zW → Prop} {x1 x2 : Int} 
    (h : zEv d m_lt_noWord [zR 0, zI x1] (SH, M, L) (fun x w => zEx (d + 1) m_lt_product zb0 Q 5 ([zR 0, zI x1, zI x2], [zI x], w))) :
    zEx (d + 1) m_lt_product zb0 Q 0 ([zR 0, zI x1, zI x2], [], SH, M, L) := zEx_run [5, 13, 21, 34, 37, 49, 52, 59, 71, 80, 92] 2 (by decide) (h)
set_option maxRecDepth 20000 in
theorem g_lt_product_5 {d : Nat} {M L : zM} {Q : Int → zW → Prop} {x1 x2 sx0 : Int} 
    (h : if sx0 = 0 then zEv d m_lt_noWord [zR 0, zI x2] (SH, M, L) (fun x w => zEx (d + 1) m_lt_product zb0 Q 13 ([zR 0, zI x1, zI x2], [zI x], w)) else zEv d m_lt_refuse [zR 0, zI (-1)] (SH, M, L) (fun x w => zEx (d + 1) m_lt_product zb0 Q 21 ([zR 0, zI x1, zI x2], [zI x], w))) :
    zEx (d + 1) m_lt_product zb0 Q 5 ([zR 0, zI x1, zI x2], [zI sx0], SH, M, L) := zEx_run [5, 13, 21, 34, 37, 49, 52, 59, 71, 80, 92] 2 (by decide) (h)
set_option maxRecDepth 20000 in
theorem g_lt_product_13 {d : Nat} {M L : zM} {Q : Int → zW → Prop} {x1 x2 sx0 : Int} 
    (h : if sx0 = 0 then zEv d m_sh_row [zR 7, zI x1] (SH, M, L) (fun x w => zEx (d + 1) m_lt_product zb0 Q 34 ([zR 0, zI x1, zI x2], [zR x.toNat, zR 108], w)) else zEv d m_lt_refuse [zR 0, zI (-1)] (SH, M, L) (fun x w => zEx (d + 1) m_lt_product zb0 Q 21 ([zR 0, zI x1, zI x2], [zI x], w))) :
    zEx (d + 1) m_lt_product zb0 Q 13 ([zR 0, zI x1, zI x2], [zI sx0], SH, M, L) := zEx_run [5, 13, 21, 34, 37, 49, 52, 59, 71, 80, 92] 2 (by decide) (h)
set_option maxRecDepth 20000 in
theorem g_lt_product_21 {d : Nat} {M L : zM} {Q : Int → zW → Prop} {x1 x2 sx0 : Int} 
    (h : Q sx0 (SH, M, L)) :
    zEx (d + 1) m_lt_product zb0 Q 21 ([zR 0, zI x1, zI x2], [zI sx0], SH, M, L) := zEx_run [5, 13, 21, 34, 37, 49, 52, 59, 71, 80, 92] 2 (by decide) (h)
set_option maxRecDepth 20000 in
theorem g_lt_product_34 {d : Nat} {M L : zM} {Q : Int → zW → Prop} {x1 x2 : Int} {sr0 : Nat} (hsr0 : zRow sr0)
    (h : zEv d m_ro_copy [zR 108, zR sr0] (SH, M, L) (fun _ w => zEx (d + 1) m_lt_product zb0 Q 37 ([zR 0, zI x1, zI x2], [], w))) :
    zEx (d + 1) m_lt_product zb0 Q 34 ([zR 0, zI x1, zI x2], [zR sr0, zR 108], SH, M, L) := zEx_run [5, 13, 21, 34, 37, 49, 52, 59, 71, 80, 92] 2 (by decide) (h)
set_option maxRecDepth 20000 in
theorem g_lt_product_37 {d : Nat} {M L : zM} {Q : Int → zW → Prop} {x1 x2 : Int} 
    (h : zEv d m_sh_row [zR 7, zI x2] (SH, M, L) (fun x w => zEx (d + 1) m_lt_product zb0 Q 49 ([zR 0, zI x1, zI x2], [zR x.toNat, zR 108], w))) :
    zEx (d + 1) m_lt_product zb0 Q 37 ([zR 0, zI x1, zI x2], [], SH, M, L) := zEx_run [5, 13, 21, 34, 37, 49, 52, 59, 71, 80, 92] 2 (by decide) (h)
set_option maxRecDepth 20000 in
theorem g_lt_product_49 {d : Nat} {M L : zM} {Q : Int → zW → Prop} {x1 x2 : Int} {sr0 : Nat} (hsr0 : zRow sr0)
    (h : zEv d m_ro_append [zR 108, zR sr0] (SH, M, L) (fun _ w => zEx (d + 1) m_lt_product zb0 Q 52 ([zR 0, zI x1, zI x2], [], w))) :
    zEx (d + 1) m_lt_product zb0 Q 49 ([zR 0, zI x1, zI x2], [zR sr0, zR 108], SH, M, L) := zEx_run [5, 13, 21, 34, 37, 49, 52, 59, 71, 80, 92] 2 (by decide) (h)
set_option maxRecDepth 20000 in
theorem g_lt_product_52 {d : Nat} {M L : zM} {Q : Int → zW → Prop} {x1 x2 : Int} 
    (h : zEv d m_ro_size [zR 108] (SH, M, L) (fun x w => zEx (d + 1) m_lt_product zb0 Q 59 ([zR 0, zI x1, zI x2], [zI x], w))) :
    zEx (d + 1) m_lt_product zb0 Q 52 ([zR 0, zI x1, zI x2], [], SH, M, L) := zEx_run [5, 13, 21, 34, 37, 49, 52, 59, 71, 80, 92] 2 (by decide) (h)
set_option maxRecDepth 20000 in
theorem g_lt_product_59 {d : Nat} {M L : zM} {Q : Int → zW → Prop} {x1 x2 sx0 : Int} 
    (h : if 14 < sx0 then zEv d m_lt_refuse [zR 0, zI (-6)] (SH, M, L) (fun x w => zEx (d + 1) m_lt_product zb0 Q 80 ([zR 0, zI x1, zI x2], [zI x], w)) else zEv d m_sh_isFull [zR 7] (SH, M, L) (fun x w => zEx (d + 1) m_lt_product zb0 Q 71 ([zR 0, zI x1, zI x2], [zI x], w))) :
    zEx (d + 1) m_lt_product zb0 Q 59 ([zR 0, zI x1, zI x2], [zI sx0], SH, M, L) := zEx_run [5, 13, 21, 34, 37, 49, 52, 59, 71, 80, 92] 2 (by decide) (h)
set_option maxRecDepth 20000 in
theorem g_lt_product_71 {d : Nat} {M L : zM} {Q : Int → zW → Prop} {x1 x2 sx0 : Int} 
    (h : if sx0 = 0 then zEv d m_sh_place [zR 7, zR 108] (SH, M, L) (fun x w => zEx (d + 1) m_lt_product zb0 Q 92 ([zR 0, zI x1, zI x2], [zI x], w)) else zEv d m_lt_refuse [zR 0, zI (-6)] (SH, M, L) (fun x w => zEx (d + 1) m_lt_product zb0 Q 80 ([zR 0, zI x1, zI x2], [zI x], w))) :
    zEx (d + 1) m_lt_product zb0 Q 71 ([zR 0, zI x1, zI x2], [zI sx0], SH, M, L) := zEx_run [5, 13, 21, 34, 37, 49, 52, 59, 71, 80, 92] 2 (by decide) (h)
set_option maxRecDepth 20000 in
theorem g_lt_product_80 {d : Nat} {M L : zM} {Q : Int → zW → Prop} {x1 x2 sx0 : Int} 
    (h : Q sx0 (SH, M, L)) :
    zEx (d + 1) m_lt_product zb0 Q 80 ([zR 0, zI x1, zI x2], [zI sx0], SH, M, L) := zEx_run [5, 13, 21, 34, 37, 49, 52, 59, 71, 80, 92] 2 (by decide) (h)
set_option maxRecDepth 20000 in
theorem g_lt_product_92 {d : Nat} {M L : zM} {Q : Int → zW → Prop} {x1 x2 sx0 : Int} 
    (h : Q sx0 (SH, M, L)) :
    zEx (d + 1) m_lt_product zb0 Q 92 ([zR 0, zI x1, zI x2], [zI sx0], SH, M, L) := zEx_run [5, 13, 21, 34, 37, 49, 52, 59, 71, 80, 92] 2 (by decide) (h)
set_option maxRecDepth 20000 in
theorem g_lt_power_0 {d : Nat} {M L : zM} {Q : Int → zW → Prop} {x1 x2 : Int} 
    (h : zEv d m_lt_noWord [zR 0, zI x1] (SH, M, L) (fun x w => zEx (d + 1) m_lt_power zb0 Q 5 ([zR 0, zI x1, zI x2, zN], [zI x], w))) :
    zEx (d + 1) m_lt_power zb0 Q 0 ([zR 0, zI x1, zI x2, zN], [], SH, M, L) := zEx_run [5, 13, 24, 33, 38, 56, 65, 73, 82, 93] 2 (by decide) (h)
set_option maxRecDepth 20000 in
theorem g_lt_power_5 {d : Nat} {M L : zM} {Q : Int → zW → Prop} {x1 x2 sx0 : Int} 
    (h : if sx0 = 0 then if x2 < 0 then zEv d m_lt_refuse [zR 0, zI (-4)] (SH, M, L) (fun x w => zEx (d + 1) m_lt_power zb0 Q 24 ([zR 0, zI x1, zI x2, zN], [zI x], w)) else zEv d m_sh_row [zR 7, zI x1] (SH, M, L) (fun x w => zEx (d + 1) m_lt_power zb0 Q 33 ([zR 0, zI x1, zI x2, zN], [zR x.toNat], w)) else zEv d m_lt_refuse [zR 0, zI (-1)] (SH, M, L) (fun x w => zEx (d + 1) m_lt_power zb0 Q 13 ([zR 0, zI x1, zI x2, zN], [zI x], w))) :
    zEx (d + 1) m_lt_power zb0 Q 5 ([zR 0, zI x1, zI x2, zN], [zI sx0], SH, M, L) := zEx_run [5, 13, 24, 33, 38, 56, 65, 73, 82, 93] 3 (by decide) (h)
set_option maxRecDepth 20000 in
theorem g_lt_power_13 {d : Nat} {M L : zM} {Q : Int → zW → Prop} {x1 x2 sx0 : Int} 
    (h : Q sx0 (SH, M, L)) :
    zEx (d + 1) m_lt_power zb0 Q 13 ([zR 0, zI x1, zI x2, zN], [zI sx0], SH, M, L) := zEx_run [5, 13, 24, 33, 38, 56, 65, 73, 82, 93] 2 (by decide) (h)
set_option maxRecDepth 20000 in
theorem g_lt_power_24 {d : Nat} {M L : zM} {Q : Int → zW → Prop} {x1 x2 sx0 : Int} 
    (h : Q sx0 (SH, M, L)) :
    zEx (d + 1) m_lt_power zb0 Q 24 ([zR 0, zI x1, zI x2, zN], [zI sx0], SH, M, L) := zEx_run [5, 13, 24, 33, 38, 56, 65, 73, 82, 93] 2 (by decide) (h)
set_option maxRecDepth 20000 in
theorem g_lt_power_33 {d : Nat} {M L : zM} {Q : Int → zW → Prop} {x1 x2 : Int} {sr0 : Nat} (hsr0 : zRow sr0)
    (h : zEv d m_ro_size [zR sr0] (SH, M, L) (fun x w => zEx (d + 1) m_lt_power zb0 Q 38 ([zR 0, zI x1, zI x2, zR sr0], [zI x], w))) :
    zEx (d + 1) m_lt_power zb0 Q 33 ([zR 0, zI x1, zI x2, zN], [zR sr0], SH, M, L) := zEx_run [5, 13, 24, 33, 38, 56, 65, 73, 82, 93] 2 (by decide) (zkq_i hsr0.1 (h))
set_option maxRecDepth 20000 in
theorem g_lt_power_38 {d : Nat} {M L : zM} {Q : Int → zW → Prop} {x1 x2 sx0 : Int} {r3 : Nat} (hr3 : zRow r3)
    (h : if 0 < zcmp (zwl (sx0 * x2)) 14 then zEv d m_lt_refuse [zR 0, zI (-6)] (SH, M, L) (fun x w => zEx (d + 1) m_lt_power zb0 Q 65 ([zR 0, zI x1, zI x2, zR r3], [zI x], w)) else zEv d m_sh_isFull [zR 7] (SH, M, L) (fun x w => zEx (d + 1) m_lt_power zb0 Q 56 ([zR 0, zI x1, zI x2, zR r3], [zI x], w))) :
    zEx (d + 1) m_lt_power zb0 Q 38 ([zR 0, zI x1, zI x2, zR r3], [zI sx0], SH, M, L) := zEx_run [5, 13, 24, 33, 38, 56, 65, 73, 82, 93] 2 (by decide) (h)
set_option maxRecDepth 20000 in
theorem g_lt_power_56 {d : Nat} {M L : zM} {Q : Int → zW → Prop} {x1 x2 sx0 : Int} {r3 : Nat} (hr3 : zRow r3)
    (h : if sx0 = 0 then zEv d m_ro_clear [zR 108] (SH, M, L) (fun _ w => zEx (d + 1) m_lt_power zb0 Q 73 ([zR 0, zI x1, zI x2, zR r3], [], w)) else zEv d m_lt_refuse [zR 0, zI (-6)] (SH, M, L) (fun x w => zEx (d + 1) m_lt_power zb0 Q 65 ([zR 0, zI x1, zI x2, zR r3], [zI x], w))) :
    zEx (d + 1) m_lt_power zb0 Q 56 ([zR 0, zI x1, zI x2, zR r3], [zI sx0], SH, M, L) := zEx_run [5, 13, 24, 33, 38, 56, 65, 73, 82, 93] 2 (by decide) (h)
set_option maxRecDepth 20000 in
theorem g_lt_power_65 {d : Nat} {M L : zM} {Q : Int → zW → Prop} {x1 x2 sx0 : Int} {r3 : Nat} (hr3 : zRow r3)
    (h : Q sx0 (SH, M, L)) :
    zEx (d + 1) m_lt_power zb0 Q 65 ([zR 0, zI x1, zI x2, zR r3], [zI sx0], SH, M, L) := zEx_run [5, 13, 24, 33, 38, 56, 65, 73, 82, 93] 2 (by decide) (h)
set_option maxRecDepth 20000 in
theorem g_lt_power_73 {d : Nat} {M L : zM} {Q : Int → zW → Prop} {x1 x2 : Int} {r3 : Nat} (hr3 : zRow r3)
    (h : zEv d m_ro_appendTimes [zR 108, zR r3, zI x2] (SH, M, L) (fun _ w => zEx (d + 1) m_lt_power zb0 Q 82 ([zR 0, zI x1, zI x2, zR r3], [], w))) :
    zEx (d + 1) m_lt_power zb0 Q 73 ([zR 0, zI x1, zI x2, zR r3], [], SH, M, L) := zEx_run [5, 13, 24, 33, 38, 56, 65, 73, 82, 93] 2 (by decide) (h)
set_option maxRecDepth 20000 in
theorem g_lt_power_82 {d : Nat} {M L : zM} {Q : Int → zW → Prop} {x1 x2 : Int} {r3 : Nat} (hr3 : zRow r3)
    (h : zEv d m_sh_place [zR 7, zR 108] (SH, M, L) (fun x w => zEx (d + 1) m_lt_power zb0 Q 93 ([zR 0, zI x1, zI x2, zR r3], [zI x], w))) :
    zEx (d + 1) m_lt_power zb0 Q 82 ([zR 0, zI x1, zI x2, zR r3], [], SH, M, L) := zEx_run [5, 13, 24, 33, 38, 56, 65, 73, 82, 93] 2 (by decide) (h)
set_option maxRecDepth 20000 in
theorem g_lt_power_93 {d : Nat} {M L : zM} {Q : Int → zW → Prop} {x1 x2 sx0 : Int} {r3 : Nat} (hr3 : zRow r3)
    (h : Q sx0 (SH, M, L)) :
    zEx (d + 1) m_lt_power zb0 Q 93 ([zR 0, zI x1, zI x2, zR r3], [zI sx0], SH, M, L) := zEx_run [5, 13, 24, 33, 38, 56, 65, 73, 82, 93] 2 (by decide) (h)
set_option maxRecDepth 20000 in
theorem g_lt_changes_0 {d : Nat} {M L : zM} {Q : Int → zW → Prop} {x1 x2 : Int} 
    (h : zEv d m_lt_noWord [zR 0, zI x1] (SH, M, L) (fun x w => zEx (d + 1) m_lt_changes zb0 Q 5 ([zR 0, zI x1, zI x2], [zI x], w))) :
    zEx (d + 1) m_lt_changes zb0 Q 0 ([zR 0, zI x1, zI x2], [], SH, M, L) := zEx_run [5, 13, 21, 34, 37, 49, 52, 64, 67, 79, 82, 97, 100] 2 (by decide) (h)
set_option maxRecDepth 20000 in
theorem g_lt_changes_5 {d : Nat} {M L : zM} {Q : Int → zW → Prop} {x1 x2 sx0 : Int} 
    (h : if sx0 = 0 then zEv d m_lt_noWord [zR 0, zI x2] (SH, M, L) (fun x w => zEx (d + 1) m_lt_changes zb0 Q 13 ([zR 0, zI x1, zI x2], [zI x], w)) else zEv d m_lt_refuse [zR 0, zI (-1)] (SH, M, L) (fun x w => zEx (d + 1) m_lt_changes zb0 Q 21 ([zR 0, zI x1, zI x2], [zI x], w))) :
    zEx (d + 1) m_lt_changes zb0 Q 5 ([zR 0, zI x1, zI x2], [zI sx0], SH, M, L) := zEx_run [5, 13, 21, 34, 37, 49, 52, 64, 67, 79, 82, 97, 100] 2 (by decide) (h)
set_option maxRecDepth 20000 in
theorem g_lt_changes_13 {d : Nat} {M L : zM} {Q : Int → zW → Prop} {x1 x2 sx0 : Int} 
    (h : if sx0 = 0 then zEv d m_sh_row [zR 7, zI x1] (SH, M, L) (fun x w => zEx (d + 1) m_lt_changes zb0 Q 34 ([zR 0, zI x1, zI x2], [zR x.toNat, zR 108], w)) else zEv d m_lt_refuse [zR 0, zI (-1)] (SH, M, L) (fun x w => zEx (d + 1) m_lt_changes zb0 Q 21 ([zR 0, zI x1, zI x2], [zI x], w))) :
    zEx (d + 1) m_lt_changes zb0 Q 13 ([zR 0, zI x1, zI x2], [zI sx0], SH, M, L) := zEx_run [5, 13, 21, 34, 37, 49, 52, 64, 67, 79, 82, 97, 100] 2 (by decide) (h)
set_option maxRecDepth 20000 in
theorem g_lt_changes_21 {d : Nat} {M L : zM} {Q : Int → zW → Prop} {x1 x2 sx0 : Int} 
    (h : Q sx0 (SH, M, L)) :
    zEx (d + 1) m_lt_changes zb0 Q 21 ([zR 0, zI x1, zI x2], [zI sx0], SH, M, L) := zEx_run [5, 13, 21, 34, 37, 49, 52, 64, 67, 79, 82, 97, 100] 2 (by decide) (h)
set_option maxRecDepth 20000 in
theorem g_lt_changes_34 {d : Nat} {M L : zM} {Q : Int → zW → Prop} {x1 x2 : Int} {sr0 : Nat} (hsr0 : zRow sr0)
    (h : zEv d m_ro_copy [zR 108, zR sr0] (SH, M, L) (fun _ w => zEx (d + 1) m_lt_changes zb0 Q 37 ([zR 0, zI x1, zI x2], [], w))) :
    zEx (d + 1) m_lt_changes zb0 Q 34 ([zR 0, zI x1, zI x2], [zR sr0, zR 108], SH, M, L) := zEx_run [5, 13, 21, 34, 37, 49, 52, 64, 67, 79, 82, 97, 100] 2 (by decide) (h)
set_option maxRecDepth 20000 in
theorem g_lt_changes_37 {d : Nat} {M L : zM} {Q : Int → zW → Prop} {x1 x2 : Int} 
    (h : zEv d m_sh_row [zR 7, zI x2] (SH, M, L) (fun x w => zEx (d + 1) m_lt_changes zb0 Q 49 ([zR 0, zI x1, zI x2], [zR x.toNat, zR 108], w))) :
    zEx (d + 1) m_lt_changes zb0 Q 37 ([zR 0, zI x1, zI x2], [], SH, M, L) := zEx_run [5, 13, 21, 34, 37, 49, 52, 64, 67, 79, 82, 97, 100] 2 (by decide) (h)
set_option maxRecDepth 20000 in
theorem g_lt_changes_49 {d : Nat} {M L : zM} {Q : Int → zW → Prop} {x1 x2 : Int} {sr0 : Nat} (hsr0 : zRow sr0)
    (h : zEv d m_ro_append [zR 108, zR sr0] (SH, M, L) (fun _ w => zEx (d + 1) m_lt_changes zb0 Q 52 ([zR 0, zI x1, zI x2], [], w))) :
    zEx (d + 1) m_lt_changes zb0 Q 49 ([zR 0, zI x1, zI x2], [zR sr0, zR 108], SH, M, L) := zEx_run [5, 13, 21, 34, 37, 49, 52, 64, 67, 79, 82, 97, 100] 2 (by decide) (h)
set_option maxRecDepth 20000 in
theorem g_lt_changes_52 {d : Nat} {M L : zM} {Q : Int → zW → Prop} {x1 x2 : Int} 
    (h : zEv d m_sh_row [zR 7, zI x2] (SH, M, L) (fun x w => zEx (d + 1) m_lt_changes zb0 Q 64 ([zR 0, zI x1, zI x2], [zR x.toNat, zR 110], w))) :
    zEx (d + 1) m_lt_changes zb0 Q 52 ([zR 0, zI x1, zI x2], [], SH, M, L) := zEx_run [5, 13, 21, 34, 37, 49, 52, 64, 67, 79, 82, 97, 100] 2 (by decide) (h)
set_option maxRecDepth 20000 in
theorem g_lt_changes_64 {d : Nat} {M L : zM} {Q : Int → zW → Prop} {x1 x2 : Int} {sr0 : Nat} (hsr0 : zRow sr0)
    (h : zEv d m_ro_copy [zR 110, zR sr0] (SH, M, L) (fun _ w => zEx (d + 1) m_lt_changes zb0 Q 67 ([zR 0, zI x1, zI x2], [], w))) :
    zEx (d + 1) m_lt_changes zb0 Q 64 ([zR 0, zI x1, zI x2], [zR sr0, zR 110], SH, M, L) := zEx_run [5, 13, 21, 34, 37, 49, 52, 64, 67, 79, 82, 97, 100] 2 (by decide) (h)
set_option maxRecDepth 20000 in
theorem g_lt_changes_67 {d : Nat} {M L : zM} {Q : Int → zW → Prop} {x1 x2 : Int} 
    (h : zEv d m_sh_row [zR 7, zI x1] (SH, M, L) (fun x w => zEx (d + 1) m_lt_changes zb0 Q 79 ([zR 0, zI x1, zI x2], [zR x.toNat, zR 110], w))) :
    zEx (d + 1) m_lt_changes zb0 Q 67 ([zR 0, zI x1, zI x2], [], SH, M, L) := zEx_run [5, 13, 21, 34, 37, 49, 52, 64, 67, 79, 82, 97, 100] 2 (by decide) (h)
set_option maxRecDepth 20000 in
theorem g_lt_changes_79 {d : Nat} {M L : zM} {Q : Int → zW → Prop} {x1 x2 : Int} {sr0 : Nat} (hsr0 : zRow sr0)
    (h : zEv d m_ro_append [zR 110, zR sr0] (SH, M, L) (fun _ w => zEx (d + 1) m_lt_changes zb0 Q 82 ([zR 0, zI x1, zI x2], [], w))) :
    zEx (d + 1) m_lt_changes zb0 Q 79 ([zR 0, zI x1, zI x2], [zR sr0, zR 110], SH, M, L) := zEx_run [5, 13, 21, 34, 37, 49, 52, 64, 67, 79, 82, 97, 100] 2 (by decide) (h)
set_option maxRecDepth 20000 in
theorem g_lt_changes_82 {d : Nat} {M L : zM} {Q : Int → zW → Prop} {x1 x2 : Int} 
    (h : zEv d m_be_sameKind [zR 82, zR 108, zR 110] (SH, M, L) (fun x w => zEx (d + 1) m_lt_changes zb0 Q 97 ([zR 0, zI x1, zI x2], [zI x], w))) :
    zEx (d + 1) m_lt_changes zb0 Q 82 ([zR 0, zI x1, zI x2], [], SH, M, L) := zEx_run [5, 13, 21, 34, 37, 49, 52, 64, 67, 79, 82, 97, 100] 2 (by decide) (h)
set_option maxRecDepth 20000 in
theorem g_lt_changes_97 {d : Nat} {M L : zM} {Q : Int → zW → Prop} {x1 x2 sx0 : Int} 
    (h : zEv d m_lt_answer [zI sx0] (SH, M, L) (fun x w => zEx (d + 1) m_lt_changes zb0 Q 100 ([zR 0, zI x1, zI x2], [zI x], w))) :
    zEx (d + 1) m_lt_changes zb0 Q 97 ([zR 0, zI x1, zI x2], [zI sx0], SH, M, L) := zEx_run [5, 13, 21, 34, 37, 49, 52, 64, 67, 79, 82, 97, 100] 2 (by decide) (h)
set_option maxRecDepth 20000 in
theorem g_lt_changes_100 {d : Nat} {M L : zM} {Q : Int → zW → Prop} {x1 x2 sx0 : Int} 
    (h : Q sx0 (SH, M, L)) :
    zEx (d + 1) m_lt_changes zb0 Q 100 ([zR 0, zI x1, zI x2], [zI sx0], SH, M, L) := zEx_run [5, 13, 21, 34, 37, 49, 52, 64, 67, 79, 82, 97, 100] 2 (by decide) (h)
set_option maxRecDepth 20000 in
theorem g_lt_root_0 {d : Nat} {M L : zM} {Q : Int → zW → Prop} {x1 x2 : Int} 
    (h : zEv d m_lt_noWord [zR 0, zI x1] (SH, M, L) (fun x w => zEx (d + 1) m_lt_root zb0 Q 5 ([zR 0, zI x1, zI x2, zN, zN], [zI x], w))) :
    zEx (d + 1) m_lt_root zb0 Q 0 ([zR 0, zI x1, zI x2, zN, zN], [], SH, M, L) := zEx_run [5, 13, 25, 34, 39, 48, 61, 81] 2 (by decide) (h)
set_option maxRecDepth 20000 in
theorem g_lt_root_5 {d : Nat} {M L : zM} {Q : Int → zW → Prop} {x1 x2 sx0 : Int} 
    (h : if sx0 = 0 then if x2 < (-1) then zEv d m_lt_refuse [zR 0, zI (-4)] (SH, M, L) (fun x w => zEx (d + 1) m_lt_root zb0 Q 25 ([zR 0, zI x1, zI x2, zN, zN], [zI x], w)) else zEv d m_sh_row [zR 7, zI x1] (SH, M, L) (fun x w => zEx (d + 1) m_lt_root zb0 Q 34 ([zR 0, zI x1, zI x2, zN, zN], [zR x.toNat], w)) else zEv d m_lt_refuse [zR 0, zI (-1)] (SH, M, L) (fun x w => zEx (d + 1) m_lt_root zb0 Q 13 ([zR 0, zI x1, zI x2, zN, zN], [zI x], w))) :
    zEx (d + 1) m_lt_root zb0 Q 5 ([zR 0, zI x1, zI x2, zN, zN], [zI sx0], SH, M, L) := zEx_run [5, 13, 25, 34, 39, 48, 61, 81] 3 (by decide) (h)
set_option maxRecDepth 20000 in
theorem g_lt_root_13 {d : Nat} {M L : zM} {Q : Int → zW → Prop} {x1 x2 sx0 : Int} 
    (h : Q sx0 (SH, M, L)) :
    zEx (d + 1) m_lt_root zb0 Q 13 ([zR 0, zI x1, zI x2, zN, zN], [zI sx0], SH, M, L) := zEx_run [5, 13, 25, 34, 39, 48, 61, 81] 2 (by decide) (h)
set_option maxRecDepth 20000 in
theorem g_lt_root_25 {d : Nat} {M L : zM} {Q : Int → zW → Prop} {x1 x2 sx0 : Int} 
    (h : Q sx0 (SH, M, L)) :
    zEx (d + 1) m_lt_root zb0 Q 25 ([zR 0, zI x1, zI x2, zN, zN], [zI sx0], SH, M, L) := zEx_run [5, 13, 25, 34, 39, 48, 61, 81] 2 (by decide) (h)
set_option maxRecDepth 20000 in
theorem g_lt_root_34 {d : Nat} {M L : zM} {Q : Int → zW → Prop} {x1 x2 : Int} {sr0 : Nat} (hsr0 : zRow sr0)
    (h : zEv d m_ro_size [zR sr0] (SH, M, L) (fun x w => zEx (d + 1) m_lt_root zb0 Q 39 ([zR 0, zI x1, zI x2, zR sr0, zN], [zI x], w))) :
    zEx (d + 1) m_lt_root zb0 Q 34 ([zR 0, zI x1, zI x2, zN, zN], [zR sr0], SH, M, L) := zEx_run [5, 13, 25, 34, 39, 48, 61, 81] 2 (by decide) (zkq_i hsr0.1 (h))
set_option maxRecDepth 20000 in
theorem g_lt_root_39 {d : Nat} {M L : zM} {Q : Int → zW → Prop} {x1 x2 sx0 : Int} {r3 : Nat} (hr3 : zRow r3)
    (h : if sx0 = 0 then zEv d m_lt_refuse [zR 0, zI (-3)] (SH, M, L) (fun x w => zEx (d + 1) m_lt_root zb0 Q 48 ([zR 0, zI x1, zI x2, zR r3, zN], [zI x], w)) else zEv d m_be_takeRoot [zR 82, zR r3, zR 108] (SH, M, L) (fun x w => zEx (d + 1) m_lt_root zb0 Q 61 ([zR 0, zI x1, zI x2, zR r3, zN], [zI x], w))) :
    zEx (d + 1) m_lt_root zb0 Q 39 ([zR 0, zI x1, zI x2, zR r3, zN], [zI sx0], SH, M, L) := zEx_run [5, 13, 25, 34, 39, 48, 61, 81] 2 (by decide) (h)
set_option maxRecDepth 20000 in
theorem g_lt_root_48 {d : Nat} {M L : zM} {Q : Int → zW → Prop} {x1 x2 sx0 : Int} {r3 : Nat} (hr3 : zRow r3)
    (h : Q sx0 (SH, M, L)) :
    zEx (d + 1) m_lt_root zb0 Q 48 ([zR 0, zI x1, zI x2, zR r3, zN], [zI sx0], SH, M, L) := zEx_run [5, 13, 25, 34, 39, 48, 61, 81] 2 (by decide) (h)
set_option maxRecDepth 20000 in
theorem g_lt_root_61 {d : Nat} {M L : zM} {Q : Int → zW → Prop} {x1 x2 sx0 : Int} {r3 : Nat} (hr3 : zRow r3)
    (h : if x2 = (-1) then zEx (d + 1) m_lt_root zb0 Q 81 ([zR 0, zI x1, zI x2, zR r3, zI sx0], [zI sx0], SH, M, L) else zEv d m_ro_get [zR 108, zI x2] (SH, M, L) (fun x w => zEx (d + 1) m_lt_root zb0 Q 81 ([zR 0, zI x1, zI x2, zR r3, zI sx0], [zI x], w))) :
    zEx (d + 1) m_lt_root zb0 Q 61 ([zR 0, zI x1, zI x2, zR r3, zN], [zI sx0], SH, M, L) := zEx_run [5, 13, 25, 34, 39, 48, 61, 81] 2 (by decide) (h)
set_option maxRecDepth 20000 in
theorem g_lt_root_81 {d : Nat} {M L : zM} {Q : Int → zW → Prop} {x1 x2 x4 sx0 : Int} {r3 : Nat} (hr3 : zRow r3)
    (h : Q sx0 (SH, M, L)) :
    zEx (d + 1) m_lt_root zb0 Q 81 ([zR 0, zI x1, zI x2, zR r3, zI x4], [zI sx0], SH, M, L) := zEx_run [5, 13, 25, 34, 39, 48, 61, 81] 2 (by decide) (h)
set_option maxRecDepth 20000 in
theorem g_lt_parts_0 {d : Nat} {M L : zM} {Q : Int → zW → Prop} {x1 x2 : Int} 
    (h : zEv d m_lt_noWord [zR 0, zI x1] (SH, M, L) (fun x w => zEx (d + 1) m_lt_parts zb0 Q 5 ([zR 0, zI x1, zI x2, zN], [zI x], w))) :
    zEx (d + 1) m_lt_parts zb0 Q 0 ([zR 0, zI x1, zI x2, zN], [], SH, M, L) := zEx_run [5, 24, 33, 36, 50, 62] 2 (by decide) (h)
set_option maxRecDepth 20000 in
theorem g_lt_parts_5 {d : Nat} {M L : zM} {Q : Int → zW → Prop} {x1 x2 sx0 : Int} 
    (h : if sx0 = 0 then if x2 < (-1) then zEv d m_lt_refuse [zR 0, zI (-1)] (SH, M, L) (fun x w => zEx (d + 1) m_lt_parts zb0 Q 24 ([zR 0, zI x1, zI x2, zN], [zI x], w)) else if x2 < 6 then zEv d m_sh_row [zR 7, zI x1] (SH, M, L) (fun x w => zEx (d + 1) m_lt_parts zb0 Q 33 ([zR 0, zI x1, zI x2, zN], [zR x.toNat], w)) else zEv d m_lt_refuse [zR 0, zI (-1)] (SH, M, L) (fun x w => zEx (d + 1) m_lt_parts zb0 Q 24 ([zR 0, zI x1, zI x2, zN], [zI x], w)) else zEv d m_lt_refuse [zR 0, zI (-1)] (SH, M, L) (fun x w => zEx (d + 1) m_lt_parts zb0 Q 24 ([zR 0, zI x1, zI x2, zN], [zI x], w))) :
    zEx (d + 1) m_lt_parts zb0 Q 5 ([zR 0, zI x1, zI x2, zN], [zI sx0], SH, M, L) := zEx_run [5, 24, 33, 36, 50, 62] 2 (by decide) (h)
set_option maxRecDepth 20000 in
theorem g_lt_parts_24 {d : Nat} {M L : zM} {Q : Int → zW → Prop} {x1 x2 sx0 : Int} 
    (h : Q sx0 (SH, M, L)) :
    zEx (d + 1) m_lt_parts zb0 Q 24 ([zR 0, zI x1, zI x2, zN], [zI sx0], SH, M, L) := zEx_run [5, 24, 33, 36, 50, 62] 2 (by decide) (h)
set_option maxRecDepth 20000 in
theorem g_lt_parts_33 {d : Nat} {M L : zM} {Q : Int → zW → Prop} {x1 x2 : Int} {sr0 : Nat} (hsr0 : zRow sr0)
    (h : zEv d m_ro_letters [zR sr0] (SH, M, L) (fun x w => zEx (d + 1) m_lt_parts zb0 Q 36 ([zR 0, zI x1, zI x2, zN], [zI x], w))) :
    zEx (d + 1) m_lt_parts zb0 Q 33 ([zR 0, zI x1, zI x2, zN], [zR sr0], SH, M, L) := zEx_run [5, 24, 33, 36, 50, 62] 2 (by decide) (zkq_i hsr0.1 (h))
set_option maxRecDepth 20000 in
theorem g_lt_parts_36 {d : Nat} {M L : zM} {Q : Int → zW → Prop} {x1 x2 sx0 : Int} 
    (h : if x2 = (-1) then zEv d m_la_howManyParts [zR 1, zI sx0] (SH, M, L) (fun x w => zEx (d + 1) m_lt_parts zb0 Q 50 ([zR 0, zI x1, zI x2, zI sx0], [zI x], w)) else zEv d m_la_partOf [zR 1, zI x2, zI sx0] (SH, M, L) (fun x w => zEx (d + 1) m_lt_parts zb0 Q 62 ([zR 0, zI x1, zI x2, zI sx0], [zI x], w))) :
    zEx (d + 1) m_lt_parts zb0 Q 36 ([zR 0, zI x1, zI x2, zN], [zI sx0], SH, M, L) := zEx_run [5, 24, 33, 36, 50, 62] 2 (by decide) (h)
set_option maxRecDepth 20000 in
theorem g_lt_parts_50 {d : Nat} {M L : zM} {Q : Int → zW → Prop} {x1 x2 x3 sx0 : Int} 
    (h : zEx (d + 1) m_lt_parts zb0 Q 62 ([zR 0, zI x1, zI x2, zI x3], [zI sx0], SH, M, L)) :
    zEx (d + 1) m_lt_parts zb0 Q 50 ([zR 0, zI x1, zI x2, zI x3], [zI sx0], SH, M, L) := zEx_run [5, 24, 33, 36, 50, 62] 2 (by decide) (h)
set_option maxRecDepth 20000 in
theorem g_lt_parts_62 {d : Nat} {M L : zM} {Q : Int → zW → Prop} {x1 x2 x3 sx0 : Int} 
    (h : Q sx0 (SH, M, L)) :
    zEx (d + 1) m_lt_parts zb0 Q 62 ([zR 0, zI x1, zI x2, zI x3], [zI sx0], SH, M, L) := zEx_run [5, 24, 33, 36, 50, 62] 2 (by decide) (h)
set_option maxRecDepth 20000 in
theorem g_lt_turned_0 {d : Nat} {M L : zM} {Q : Int → zW → Prop} {x1 : Int} 
    (h : zEv d m_lt_noWord [zR 0, zI x1] (SH, M, L) (fun x w => zEx (d + 1) m_lt_turned zb0 Q 5 ([zR 0, zI x1], [zI x], w))) :
    zEx (d + 1) m_lt_turned zb0 Q 0 ([zR 0, zI x1], [], SH, M, L) := zEx_run [5, 13, 19, 28, 41, 44, 51] 2 (by decide) (h)
set_option maxRecDepth 20000 in
theorem g_lt_turned_5 {d : Nat} {M L : zM} {Q : Int → zW → Prop} {x1 sx0 : Int} 
    (h : if sx0 = 0 then zEv d m_lt_tooLongToTurn [zR 0, zI x1] (SH, M, L) (fun x w => zEx (d + 1) m_lt_turned zb0 Q 19 ([zR 0, zI x1], [zI x], w)) else zEv d m_lt_refuse [zR 0, zI (-1)] (SH, M, L) (fun x w => zEx (d + 1) m_lt_turned zb0 Q 13 ([zR 0, zI x1], [zI x], w))) :
    zEx (d + 1) m_lt_turned zb0 Q 5 ([zR 0, zI x1], [zI sx0], SH, M, L) := zEx_run [5, 13, 19, 28, 41, 44, 51] 2 (by decide) (h)
set_option maxRecDepth 20000 in
theorem g_lt_turned_13 {d : Nat} {M L : zM} {Q : Int → zW → Prop} {x1 sx0 : Int} 
    (h : Q sx0 (SH, M, L)) :
    zEx (d + 1) m_lt_turned zb0 Q 13 ([zR 0, zI x1], [zI sx0], SH, M, L) := zEx_run [5, 13, 19, 28, 41, 44, 51] 2 (by decide) (h)
set_option maxRecDepth 20000 in
theorem g_lt_turned_19 {d : Nat} {M L : zM} {Q : Int → zW → Prop} {x1 sx0 : Int} 
    (h : if sx0 = 0 then zEv d m_sh_row [zR 7, zI x1] (SH, M, L) (fun x w => zEx (d + 1) m_lt_turned zb0 Q 41 ([zR 0, zI x1], [zR x.toNat, zR 97], w)) else zEv d m_lt_refuse [zR 0, zI (-6)] (SH, M, L) (fun x w => zEx (d + 1) m_lt_turned zb0 Q 28 ([zR 0, zI x1], [zI x], w))) :
    zEx (d + 1) m_lt_turned zb0 Q 19 ([zR 0, zI x1], [zI sx0], SH, M, L) := zEx_run [5, 13, 19, 28, 41, 44, 51] 2 (by decide) (h)
set_option maxRecDepth 20000 in
theorem g_lt_turned_28 {d : Nat} {M L : zM} {Q : Int → zW → Prop} {x1 sx0 : Int} 
    (h : Q sx0 (SH, M, L)) :
    zEx (d + 1) m_lt_turned zb0 Q 28 ([zR 0, zI x1], [zI sx0], SH, M, L) := zEx_run [5, 13, 19, 28, 41, 44, 51] 2 (by decide) (h)
set_option maxRecDepth 20000 in
theorem g_lt_turned_41 {d : Nat} {M L : zM} {Q : Int → zW → Prop} {x1 : Int} {sr0 : Nat} (hsr0 : zRow sr0)
    (h : zEv d m_tu_explore [zR 97, zR sr0] (SH, M, L) (fun _ w => zEx (d + 1) m_lt_turned zb0 Q 44 ([zR 0, zI x1], [], w))) :
    zEx (d + 1) m_lt_turned zb0 Q 41 ([zR 0, zI x1], [zR sr0, zR 97], SH, M, L) := zEx_run [5, 13, 19, 28, 41, 44, 51] 2 (by decide) (h)
set_option maxRecDepth 20000 in
theorem g_lt_turned_44 {d : Nat} {M L : zM} {Q : Int → zW → Prop} {x1 : Int} 
    (h : zEv d m_tu_found [zR 97] (SH, M, L) (fun x w => zEx (d + 1) m_lt_turned zb0 Q 51 ([zR 0, zI x1], [zI x], w))) :
    zEx (d + 1) m_lt_turned zb0 Q 44 ([zR 0, zI x1], [], SH, M, L) := zEx_run [5, 13, 19, 28, 41, 44, 51] 2 (by decide) (h)
set_option maxRecDepth 20000 in
theorem g_lt_turned_51 {d : Nat} {M L : zM} {Q : Int → zW → Prop} {x1 sx0 : Int} 
    (h : Q sx0 (SH, M, L)) :
    zEx (d + 1) m_lt_turned zb0 Q 51 ([zR 0, zI x1], [zI sx0], SH, M, L) := zEx_run [5, 13, 19, 28, 41, 44, 51] 2 (by decide) (h)
set_option maxRecDepth 20000 in
theorem g_lt_turn_0 {d : Nat} {M L : zM} {Q : Int → zW → Prop} {x1 x2 x3 : Int} 
    (h : zEv d m_lt_noWord [zR 0, zI x1] (SH, M, L) (fun x w => zEx (d + 1) m_lt_turn zb0 Q 5 ([zR 0, zI x1, zI x2, zI x3], [zI x], w))) :
    zEx (d + 1) m_lt_turn zb0 Q 0 ([zR 0, zI x1, zI x2, zI x3], [], SH, M, L) := zEx_run [5, 13, 28, 34, 43, 56, 59, 68] 2 (by decide) (h)
set_option maxRecDepth 20000 in
theorem g_lt_turn_5 {d : Nat} {M L : zM} {Q : Int → zW → Prop} {x1 x2 x3 sx0 : Int} 
    (h : if sx0 = 0 then if x2 < 0 then zEv d m_lt_refuse [zR 0, zI (-4)] (SH, M, L) (fun x w => zEx (d + 1) m_lt_turn zb0 Q 28 ([zR 0, zI x1, zI x2, zI x3], [zI x], w)) else if x3 < 0 then zEv d m_lt_refuse [zR 0, zI (-4)] (SH, M, L) (fun x w => zEx (d + 1) m_lt_turn zb0 Q 28 ([zR 0, zI x1, zI x2, zI x3], [zI x], w)) else zEv d m_lt_tooLongToTurn [zR 0, zI x1] (SH, M, L) (fun x w => zEx (d + 1) m_lt_turn zb0 Q 34 ([zR 0, zI x1, zI x2, zI x3], [zI x], w)) else zEv d m_lt_refuse [zR 0, zI (-1)] (SH, M, L) (fun x w => zEx (d + 1) m_lt_turn zb0 Q 13 ([zR 0, zI x1, zI x2, zI x3], [zI x], w))) :
    zEx (d + 1) m_lt_turn zb0 Q 5 ([zR 0, zI x1, zI x2, zI x3], [zI sx0], SH, M, L) := zEx_run [5, 13, 28, 34, 43, 56, 59, 68] 3 (by decide) (h)
set_option maxRecDepth 20000 in
theorem g_lt_turn_13 {d : Nat} {M L : zM} {Q : Int → zW → Prop} {x1 x2 x3 sx0 : Int} 
    (h : Q sx0 (SH, M, L)) :
    zEx (d + 1) m_lt_turn zb0 Q 13 ([zR 0, zI x1, zI x2, zI x3], [zI sx0], SH, M, L) := zEx_run [5, 13, 28, 34, 43, 56, 59, 68] 2 (by decide) (h)
set_option maxRecDepth 20000 in
theorem g_lt_turn_28 {d : Nat} {M L : zM} {Q : Int → zW → Prop} {x1 x2 x3 sx0 : Int} 
    (h : Q sx0 (SH, M, L)) :
    zEx (d + 1) m_lt_turn zb0 Q 28 ([zR 0, zI x1, zI x2, zI x3], [zI sx0], SH, M, L) := zEx_run [5, 13, 28, 34, 43, 56, 59, 68] 2 (by decide) (h)
set_option maxRecDepth 20000 in
theorem g_lt_turn_34 {d : Nat} {M L : zM} {Q : Int → zW → Prop} {x1 x2 x3 sx0 : Int} 
    (h : if sx0 = 0 then zEv d m_sh_row [zR 7, zI x1] (SH, M, L) (fun x w => zEx (d + 1) m_lt_turn zb0 Q 56 ([zR 0, zI x1, zI x2, zI x3], [zR x.toNat, zR 97], w)) else zEv d m_lt_refuse [zR 0, zI (-6)] (SH, M, L) (fun x w => zEx (d + 1) m_lt_turn zb0 Q 43 ([zR 0, zI x1, zI x2, zI x3], [zI x], w))) :
    zEx (d + 1) m_lt_turn zb0 Q 34 ([zR 0, zI x1, zI x2, zI x3], [zI sx0], SH, M, L) := zEx_run [5, 13, 28, 34, 43, 56, 59, 68] 2 (by decide) (h)
set_option maxRecDepth 20000 in
theorem g_lt_turn_43 {d : Nat} {M L : zM} {Q : Int → zW → Prop} {x1 x2 x3 sx0 : Int} 
    (h : Q sx0 (SH, M, L)) :
    zEx (d + 1) m_lt_turn zb0 Q 43 ([zR 0, zI x1, zI x2, zI x3], [zI sx0], SH, M, L) := zEx_run [5, 13, 28, 34, 43, 56, 59, 68] 2 (by decide) (h)
set_option maxRecDepth 20000 in
theorem g_lt_turn_56 {d : Nat} {M L : zM} {Q : Int → zW → Prop} {x1 x2 x3 : Int} {sr0 : Nat} (hsr0 : zRow sr0)
    (h : zEv d m_tu_explore [zR 97, zR sr0] (SH, M, L) (fun _ w => zEx (d + 1) m_lt_turn zb0 Q 59 ([zR 0, zI x1, zI x2, zI x3], [], w))) :
    zEx (d + 1) m_lt_turn zb0 Q 56 ([zR 0, zI x1, zI x2, zI x3], [zR sr0, zR 97], SH, M, L) := zEx_run [5, 13, 28, 34, 43, 56, 59, 68] 2 (by decide) (h)
set_option maxRecDepth 20000 in
theorem g_lt_turn_59 {d : Nat} {M L : zM} {Q : Int → zW → Prop} {x1 x2 x3 : Int} 
    (h : zEv d m_tu_letterOf [zR 97, zI x2, zI x3] (SH, M, L) (fun x w => zEx (d + 1) m_lt_turn zb0 Q 68 ([zR 0, zI x1, zI x2, zI x3], [zI x], w))) :
    zEx (d + 1) m_lt_turn zb0 Q 59 ([zR 0, zI x1, zI x2, zI x3], [], SH, M, L) := zEx_run [5, 13, 28, 34, 43, 56, 59, 68] 2 (by decide) (h)
set_option maxRecDepth 20000 in
theorem g_lt_turn_68 {d : Nat} {M L : zM} {Q : Int → zW → Prop} {x1 x2 x3 sx0 : Int} 
    (h : Q sx0 (SH, M, L)) :
    zEx (d + 1) m_lt_turn zb0 Q 68 ([zR 0, zI x1, zI x2, zI x3], [zI sx0], SH, M, L) := zEx_run [5, 13, 28, 34, 43, 56, 59, 68] 2 (by decide) (h)
set_option maxRecDepth 20000 in
theorem g_lt_apart_0 {d : Nat} {M L : zM} {Q : Int → zW → Prop} {x1 x2 : Int} 
    (h : zEv d m_lt_noWord [zR 0, zI x1] (SH, M, L) (fun x w => zEx (d + 1) m_lt_apart zb0 Q 5 ([zR 0, zI x1, zI x2], [zI x], w))) :
    zEx (d + 1) m_lt_apart zb0 Q 0 ([zR 0, zI x1, zI x2], [], SH, M, L) := zEx_run [5, 13, 21, 27, 35, 44, 57, 60, 72, 75] 2 (by decide) (h)
set_option maxRecDepth 20000 in
theorem g_lt_apart_5 {d : Nat} {M L : zM} {Q : Int → zW → Prop} {x1 x2 sx0 : Int} 
    (h : if sx0 = 0 then zEv d m_lt_noWord [zR 0, zI x2] (SH, M, L) (fun x w => zEx (d + 1) m_lt_apart zb0 Q 13 ([zR 0, zI x1, zI x2], [zI x], w)) else zEv d m_lt_refuse [zR 0, zI (-1)] (SH, M, L) (fun x w => zEx (d + 1) m_lt_apart zb0 Q 21 ([zR 0, zI x1, zI x2], [zI x], w))) :
    zEx (d + 1) m_lt_apart zb0 Q 5 ([zR 0, zI x1, zI x2], [zI sx0], SH, M, L) := zEx_run [5, 13, 21, 27, 35, 44, 57, 60, 72, 75] 2 (by decide) (h)
set_option maxRecDepth 20000 in
theorem g_lt_apart_13 {d : Nat} {M L : zM} {Q : Int → zW → Prop} {x1 x2 sx0 : Int} 
    (h : if sx0 = 0 then zEv d m_lt_tooLongToTurn [zR 0, zI x1] (SH, M, L) (fun x w => zEx (d + 1) m_lt_apart zb0 Q 27 ([zR 0, zI x1, zI x2], [zI x], w)) else zEv d m_lt_refuse [zR 0, zI (-1)] (SH, M, L) (fun x w => zEx (d + 1) m_lt_apart zb0 Q 21 ([zR 0, zI x1, zI x2], [zI x], w))) :
    zEx (d + 1) m_lt_apart zb0 Q 13 ([zR 0, zI x1, zI x2], [zI sx0], SH, M, L) := zEx_run [5, 13, 21, 27, 35, 44, 57, 60, 72, 75] 2 (by decide) (h)
set_option maxRecDepth 20000 in
theorem g_lt_apart_21 {d : Nat} {M L : zM} {Q : Int → zW → Prop} {x1 x2 sx0 : Int} 
    (h : Q sx0 (SH, M, L)) :
    zEx (d + 1) m_lt_apart zb0 Q 21 ([zR 0, zI x1, zI x2], [zI sx0], SH, M, L) := zEx_run [5, 13, 21, 27, 35, 44, 57, 60, 72, 75] 2 (by decide) (h)
set_option maxRecDepth 20000 in
theorem g_lt_apart_27 {d : Nat} {M L : zM} {Q : Int → zW → Prop} {x1 x2 sx0 : Int} 
    (h : if sx0 = 0 then zEv d m_lt_tooLongToTurn [zR 0, zI x2] (SH, M, L) (fun x w => zEx (d + 1) m_lt_apart zb0 Q 35 ([zR 0, zI x1, zI x2], [zI x], w)) else zEv d m_lt_refuse [zR 0, zI (-6)] (SH, M, L) (fun x w => zEx (d + 1) m_lt_apart zb0 Q 44 ([zR 0, zI x1, zI x2], [zI x], w))) :
    zEx (d + 1) m_lt_apart zb0 Q 27 ([zR 0, zI x1, zI x2], [zI sx0], SH, M, L) := zEx_run [5, 13, 21, 27, 35, 44, 57, 60, 72, 75] 2 (by decide) (h)
set_option maxRecDepth 20000 in
theorem g_lt_apart_35 {d : Nat} {M L : zM} {Q : Int → zW → Prop} {x1 x2 sx0 : Int} 
    (h : if sx0 = 0 then zEv d m_sh_row [zR 7, zI x1] (SH, M, L) (fun x w => zEx (d + 1) m_lt_apart zb0 Q 57 ([zR 0, zI x1, zI x2], [zR x.toNat, zR 97], w)) else zEv d m_lt_refuse [zR 0, zI (-6)] (SH, M, L) (fun x w => zEx (d + 1) m_lt_apart zb0 Q 44 ([zR 0, zI x1, zI x2], [zI x], w))) :
    zEx (d + 1) m_lt_apart zb0 Q 35 ([zR 0, zI x1, zI x2], [zI sx0], SH, M, L) := zEx_run [5, 13, 21, 27, 35, 44, 57, 60, 72, 75] 2 (by decide) (h)
set_option maxRecDepth 20000 in
theorem g_lt_apart_44 {d : Nat} {M L : zM} {Q : Int → zW → Prop} {x1 x2 sx0 : Int} 
    (h : Q sx0 (SH, M, L)) :
    zEx (d + 1) m_lt_apart zb0 Q 44 ([zR 0, zI x1, zI x2], [zI sx0], SH, M, L) := zEx_run [5, 13, 21, 27, 35, 44, 57, 60, 72, 75] 2 (by decide) (h)
set_option maxRecDepth 20000 in
theorem g_lt_apart_57 {d : Nat} {M L : zM} {Q : Int → zW → Prop} {x1 x2 : Int} {sr0 : Nat} (hsr0 : zRow sr0)
    (h : zEv d m_tu_explore [zR 97, zR sr0] (SH, M, L) (fun _ w => zEx (d + 1) m_lt_apart zb0 Q 60 ([zR 0, zI x1, zI x2], [], w))) :
    zEx (d + 1) m_lt_apart zb0 Q 57 ([zR 0, zI x1, zI x2], [zR sr0, zR 97], SH, M, L) := zEx_run [5, 13, 21, 27, 35, 44, 57, 60, 72, 75] 2 (by decide) (h)
set_option maxRecDepth 20000 in
theorem g_lt_apart_60 {d : Nat} {M L : zM} {Q : Int → zW → Prop} {x1 x2 : Int} 
    (h : zEv d m_sh_row [zR 7, zI x2] (SH, M, L) (fun x w => zEx (d + 1) m_lt_apart zb0 Q 72 ([zR 0, zI x1, zI x2], [zR x.toNat, zR 97], w))) :
    zEx (d + 1) m_lt_apart zb0 Q 60 ([zR 0, zI x1, zI x2], [], SH, M, L) := zEx_run [5, 13, 21, 27, 35, 44, 57, 60, 72, 75] 2 (by decide) (h)
set_option maxRecDepth 20000 in
theorem g_lt_apart_72 {d : Nat} {M L : zM} {Q : Int → zW → Prop} {x1 x2 : Int} {sr0 : Nat} (hsr0 : zRow sr0)
    (h : zEv d m_tu_movesTo [zR 97, zR sr0] (SH, M, L) (fun x w => zEx (d + 1) m_lt_apart zb0 Q 75 ([zR 0, zI x1, zI x2], [zI x], w))) :
    zEx (d + 1) m_lt_apart zb0 Q 72 ([zR 0, zI x1, zI x2], [zR sr0, zR 97], SH, M, L) := zEx_run [5, 13, 21, 27, 35, 44, 57, 60, 72, 75] 2 (by decide) (h)
set_option maxRecDepth 20000 in
theorem g_lt_apart_75 {d : Nat} {M L : zM} {Q : Int → zW → Prop} {x1 x2 sx0 : Int} 
    (h : Q sx0 (SH, M, L)) :
    zEx (d + 1) m_lt_apart zb0 Q 75 ([zR 0, zI x1, zI x2], [zI sx0], SH, M, L) := zEx_run [5, 13, 21, 27, 35, 44, 57, 60, 72, 75] 2 (by decide) (h)
set_option maxRecDepth 20000 in
theorem g_lt_unlike_0 {d : Nat} {M L : zM} {Q : Int → zW → Prop} {x1 x2 : Int} 
    (h : if x1 < 0 then zEv d m_lt_refuseFar [zR 0, zI (-4)] (SH, M, L) (fun x w => zEx (d + 1) m_lt_unlike zb0 Q 15 ([zR 0, zI x1, zI x2], [zL x], w)) else if x2 < 1 then zEv d m_lt_refuseFar [zR 0, zI (-4)] (SH, M, L) (fun x w => zEx (d + 1) m_lt_unlike zb0 Q 15 ([zR 0, zI x1, zI x2], [zL x], w)) else if 12 < x1 then zEv d m_lt_refuseFar [zR 0, zI (-6)] (SH, M, L) (fun x w => zEx (d + 1) m_lt_unlike zb0 Q 34 ([zR 0, zI x1, zI x2], [zL x], w)) else if 6 < x2 then zEv d m_lt_refuseFar [zR 0, zI (-6)] (SH, M, L) (fun x w => zEx (d + 1) m_lt_unlike zb0 Q 34 ([zR 0, zI x1, zI x2], [zL x], w)) else zEv d m_ta_countUnlike [zR 89, zI x1, zI x2, zR 1] (SH, M, L) (fun x w => zEx (d + 1) m_lt_unlike zb0 Q 48 ([zR 0, zI x1, zI x2], [zL x], w))) :
    zEx (d + 1) m_lt_unlike zb0 Q 0 ([zR 0, zI x1, zI x2], [], SH, M, L) := zEx_run [15, 34, 48] 3 (by decide) (h)
set_option maxRecDepth 20000 in
theorem g_lt_unlike_15 {d : Nat} {M L : zM} {Q : Int → zW → Prop} {x1 x2 sy0 : Int} 
    (h : Q sy0 (SH, M, L)) :
    zEx (d + 1) m_lt_unlike zb0 Q 15 ([zR 0, zI x1, zI x2], [zL sy0], SH, M, L) := zEx_run [15, 34, 48] 2 (by decide) (h)
set_option maxRecDepth 20000 in
theorem g_lt_unlike_34 {d : Nat} {M L : zM} {Q : Int → zW → Prop} {x1 x2 sy0 : Int} 
    (h : Q sy0 (SH, M, L)) :
    zEx (d + 1) m_lt_unlike zb0 Q 34 ([zR 0, zI x1, zI x2], [zL sy0], SH, M, L) := zEx_run [15, 34, 48] 2 (by decide) (h)
set_option maxRecDepth 20000 in
theorem g_lt_unlike_48 {d : Nat} {M L : zM} {Q : Int → zW → Prop} {x1 x2 sy0 : Int} 
    (h : Q sy0 (SH, M, L)) :
    zEx (d + 1) m_lt_unlike zb0 Q 48 ([zR 0, zI x1, zI x2], [zL sy0], SH, M, L) := zEx_run [15, 34, 48] 2 (by decide) (h)
set_option maxRecDepth 20000 in
theorem g_lt_free_0 {d : Nat} {M L : zM} {Q : Int → zW → Prop}  
    (h : zEv d m_la_howManyFree [zR 1] (SH, M, L) (fun x w => zEx (d + 1) m_lt_free zb0 Q 7 ([zR 0], [zI x], w))) :
    zEx (d + 1) m_lt_free zb0 Q 0 ([zR 0], [], SH, M, L) := zEx_run [7] 2 (by decide) (h)
set_option maxRecDepth 20000 in
theorem g_lt_free_7 {d : Nat} {M L : zM} {Q : Int → zW → Prop} {sx0 : Int} 
    (h : Q sx0 (SH, M, L)) :
    zEx (d + 1) m_lt_free zb0 Q 7 ([zR 0], [zI sx0], SH, M, L) := zEx_run [7] 2 (by decide) (h)
set_option maxRecDepth 20000 in
theorem g_lt_lots_0 {d : Nat} {M L : zM} {Q : Int → zW → Prop} {x1 x2 x3 x4 : Int} 
    (h : zEv d m_lt_noWord [zR 0, zI x1] (SH, M, L) (fun x w => zEx (d + 1) m_lt_lots zb0 Q 5 ([zR 0, zI x1, zI x2, zI x3, zI x4, zN, zN], [zI x], w))) :
    zEx (d + 1) m_lt_lots zb0 Q 0 ([zR 0, zI x1, zI x2, zI x3, zI x4, zN, zN], [], SH, M, L) := zEx_run [5, 13, 25, 38, 44, 53, 62, 69, 79, 89, 102, 123] 2 (by decide) (h)
set_option maxRecDepth 20000 in
theorem g_lt_lots_5 {d : Nat} {M L : zM} {Q : Int → zW → Prop} {x1 x2 x3 x4 sx0 : Int} 
    (h : if sx0 = 0 then if x2 < 1 then zEv d m_lt_refuse [zR 0, zI (-4)] (SH, M, L) (fun x w => zEx (d + 1) m_lt_lots zb0 Q 25 ([zR 0, zI x1, zI x2, zI x3, zI x4, zN, zN], [zI x], w)) else if 60 < x2 then zEv d m_lt_refuse [zR 0, zI (-6)] (SH, M, L) (fun x w => zEx (d + 1) m_lt_lots zb0 Q 38 ([zR 0, zI x1, zI x2, zI x3, zI x4, zN, zN], [zI x], w)) else zEv d m_lt_noSuch [zI x4] (SH, M, L) (fun x w => zEx (d + 1) m_lt_lots zb0 Q 44 ([zR 0, zI x1, zI x2, zI x3, zI x4, zN, zN], [zI x], w)) else zEv d m_lt_refuse [zR 0, zI (-1)] (SH, M, L) (fun x w => zEx (d + 1) m_lt_lots zb0 Q 13 ([zR 0, zI x1, zI x2, zI x3, zI x4, zN, zN], [zI x], w))) :
    zEx (d + 1) m_lt_lots zb0 Q 5 ([zR 0, zI x1, zI x2, zI x3, zI x4, zN, zN], [zI sx0], SH, M, L) := zEx_run [5, 13, 25, 38, 44, 53, 62, 69, 79, 89, 102, 123] 4 (by decide) (h)
set_option maxRecDepth 20000 in
theorem g_lt_lots_13 {d : Nat} {M L : zM} {Q : Int → zW → Prop} {x1 x2 x3 x4 sx0 : Int} 
    (h : Q sx0 (SH, M, L)) :
    zEx (d + 1) m_lt_lots zb0 Q 13 ([zR 0, zI x1, zI x2, zI x3, zI x4, zN, zN], [zI sx0], SH, M, L) := zEx_run [5, 13, 25, 38, 44, 53, 62, 69, 79, 89, 102, 123] 2 (by decide) (h)
set_option maxRecDepth 20000 in
theorem g_lt_lots_25 {d : Nat} {M L : zM} {Q : Int → zW → Prop} {x1 x2 x3 x4 sx0 : Int} 
    (h : Q sx0 (SH, M, L)) :
    zEx (d + 1) m_lt_lots zb0 Q 25 ([zR 0, zI x1, zI x2, zI x3, zI x4, zN, zN], [zI sx0], SH, M, L) := zEx_run [5, 13, 25, 38, 44, 53, 62, 69, 79, 89, 102, 123] 2 (by decide) (h)
set_option maxRecDepth 20000 in
theorem g_lt_lots_38 {d : Nat} {M L : zM} {Q : Int → zW → Prop} {x1 x2 x3 x4 sx0 : Int} 
    (h : Q sx0 (SH, M, L)) :
    zEx (d + 1) m_lt_lots zb0 Q 38 ([zR 0, zI x1, zI x2, zI x3, zI x4, zN, zN], [zI sx0], SH, M, L) := zEx_run [5, 13, 25, 38, 44, 53, 62, 69, 79, 89, 102, 123] 2 (by decide) (h)
set_option maxRecDepth 20000 in
theorem g_lt_lots_44 {d : Nat} {M L : zM} {Q : Int → zW → Prop} {x1 x2 x3 x4 sx0 : Int} 
    (h : if sx0 = 0 then zEv d m_sh_row [zR 7, zI x1] (SH, M, L) (fun x w => zEx (d + 1) m_lt_lots zb0 Q 62 ([zR 0, zI x1, zI x2, zI x3, zI x4, zN, zN], [zR x.toNat], w)) else zEv d m_lt_refuse [zR 0, zI (-2)] (SH, M, L) (fun x w => zEx (d + 1) m_lt_lots zb0 Q 53 ([zR 0, zI x1, zI x2, zI x3, zI x4, zN, zN], [zI x], w))) :
    zEx (d + 1) m_lt_lots zb0 Q 44 ([zR 0, zI x1, zI x2, zI x3, zI x4, zN, zN], [zI sx0], SH, M, L) := zEx_run [5, 13, 25, 38, 44, 53, 62, 69, 79, 89, 102, 123] 2 (by decide) (h)
set_option maxRecDepth 20000 in
theorem g_lt_lots_53 {d : Nat} {M L : zM} {Q : Int → zW → Prop} {x1 x2 x3 x4 sx0 : Int} 
    (h : Q sx0 (SH, M, L)) :
    zEx (d + 1) m_lt_lots zb0 Q 53 ([zR 0, zI x1, zI x2, zI x3, zI x4, zN, zN], [zI sx0], SH, M, L) := zEx_run [5, 13, 25, 38, 44, 53, 62, 69, 79, 89, 102, 123] 2 (by decide) (h)
set_option maxRecDepth 20000 in
theorem g_lt_lots_62 {d : Nat} {M L : zM} {Q : Int → zW → Prop} {x1 x2 x3 x4 : Int} {sr0 : Nat} (hsr0 : zRow sr0)
    (h : zEv d m_ro_size [zR sr0] (SH, M, L) (fun x w => zEx (d + 1) m_lt_lots zb0 Q 69 ([zR 0, zI x1, zI x2, zI x3, zI x4, zR sr0, zN], [zI x], w))) :
    zEx (d + 1) m_lt_lots zb0 Q 62 ([zR 0, zI x1, zI x2, zI x3, zI x4, zN, zN], [zR sr0], SH, M, L) := zEx_run [5, 13, 25, 38, 44, 53, 62, 69, 79, 89, 102, 123] 2 (by decide) (zkq_i hsr0.1 (h))
set_option maxRecDepth 20000 in
theorem g_lt_lots_69 {d : Nat} {M L : zM} {Q : Int → zW → Prop} {x1 x2 x3 x4 sx0 : Int} {r5 : Nat} (hr5 : zRow r5)
    (h : if sx0 < 2 then zEv d m_lt_refuse [zR 0, zI (-3)] (SH, M, L) (fun x w => zEx (d + 1) m_lt_lots zb0 Q 79 ([zR 0, zI x1, zI x2, zI x3, zI x4, zR r5, zN], [zI x], w)) else zEv d m_ro_copy [zR 108, zR r5] (SH, M, L) (fun _ w => zEx (d + 1) m_lt_lots zb0 Q 89 ([zR 0, zI x1, zI x2, zI x3, zI x4, zR r5, zN], [], w))) :
    zEx (d + 1) m_lt_lots zb0 Q 69 ([zR 0, zI x1, zI x2, zI x3, zI x4, zR r5, zN], [zI sx0], SH, M, L) := zEx_run [5, 13, 25, 38, 44, 53, 62, 69, 79, 89, 102, 123] 2 (by decide) (h)
set_option maxRecDepth 20000 in
theorem g_lt_lots_79 {d : Nat} {M L : zM} {Q : Int → zW → Prop} {x1 x2 x3 x4 sx0 : Int} {r5 : Nat} (hr5 : zRow r5)
    (h : Q sx0 (SH, M, L)) :
    zEx (d + 1) m_lt_lots zb0 Q 79 ([zR 0, zI x1, zI x2, zI x3, zI x4, zR r5, zN], [zI sx0], SH, M, L) := zEx_run [5, 13, 25, 38, 44, 53, 62, 69, 79, 89, 102, 123] 2 (by decide) (h)
set_option maxRecDepth 20000 in
theorem g_lt_lots_89 {d : Nat} {M L : zM} {Q : Int → zW → Prop} {x1 x2 x3 x4 : Int} {r5 : Nat} (hr5 : zRow r5)
    (h : zEv d m_la_drawLots [zR 1, zR 108, zI x2, zI x3] (SH, M, L) (fun x w => zEx (d + 1) m_lt_lots zb0 Q 102 ([zR 0, zI x1, zI x2, zI x3, zI x4, zR r5, zN], [zI x], w))) :
    zEx (d + 1) m_lt_lots zb0 Q 89 ([zR 0, zI x1, zI x2, zI x3, zI x4, zR r5, zN], [], SH, M, L) := zEx_run [5, 13, 25, 38, 44, 53, 62, 69, 79, 89, 102, 123] 2 (by decide) (h)
set_option maxRecDepth 20000 in
theorem g_lt_lots_102 {d : Nat} {M L : zM} {Q : Int → zW → Prop} {x1 x2 x3 x4 sx0 : Int} {r5 : Nat} (hr5 : zRow r5)
    (h : if x4 = 0 then zEx (d + 1) m_lt_lots zb0 Q 123 ([zR 0, zI x1, zI x2, zI x3, zI x4, zR r5, zI sx0], [zI sx0], SH, M, L) else zEv d m_ro_howManyOther [zR 108, zR r5] (SH, M, L) (fun x w => zEx (d + 1) m_lt_lots zb0 Q 123 ([zR 0, zI x1, zI x2, zI x3, zI x4, zR r5, zI sx0], [zI x], w))) :
    zEx (d + 1) m_lt_lots zb0 Q 102 ([zR 0, zI x1, zI x2, zI x3, zI x4, zR r5, zN], [zI sx0], SH, M, L) := zEx_run [5, 13, 25, 38, 44, 53, 62, 69, 79, 89, 102, 123] 2 (by decide) (h)
set_option maxRecDepth 20000 in
theorem g_lt_lots_123 {d : Nat} {M L : zM} {Q : Int → zW → Prop} {x1 x2 x3 x4 x6 sx0 : Int} {r5 : Nat} (hr5 : zRow r5)
    (h : Q sx0 (SH, M, L)) :
    zEx (d + 1) m_lt_lots zb0 Q 123 ([zR 0, zI x1, zI x2, zI x3, zI x4, zR r5, zI x6], [zI sx0], SH, M, L) := zEx_run [5, 13, 25, 38, 44, 53, 62, 69, 79, 89, 102, 123] 2 (by decide) (h)
set_option maxRecDepth 20000 in
theorem g_lt_list_0 {d : Nat} {M L : zM} {Q : Int → zW → Prop} {x1 x2 : Int} 
    (h : zEv d m_lt_noList [zI x1] (SH, M, L) (fun x w => zEx (d + 1) m_lt_list zb0 Q 4 ([zR 0, zI x1, zI x2], [zI x], w))) :
    zEx (d + 1) m_lt_list zb0 Q 0 ([zR 0, zI x1, zI x2], [], SH, M, L) := zEx_run [4, 12, 25, 42] 2 (by decide) (h)
set_option maxRecDepth 20000 in
theorem g_lt_list_4 {d : Nat} {M L : zM} {Q : Int → zW → Prop} {x1 x2 sx0 : Int} 
    (h : if sx0 = 0 then if 40 < x2 then zEv d m_lt_refuse [zR 0, zI (-6)] (SH, M, L) (fun x w => zEx (d + 1) m_lt_list zb0 Q 25 ([zR 0, zI x1, zI x2], [zI x], w)) else if x2 < 0 then Q (-14) (SH, M, L) else zEv d m_nu_begin [zR 70, zI x1, zI x2] (SH, M, L) (fun _ w => zEx (d + 1) m_lt_list zb0 Q 42 ([zR 0, zI x1, zI x2], [], w)) else zEv d m_lt_refuse [zR 0, zI (-1)] (SH, M, L) (fun x w => zEx (d + 1) m_lt_list zb0 Q 12 ([zR 0, zI x1, zI x2], [zI x], w))) :
    zEx (d + 1) m_lt_list zb0 Q 4 ([zR 0, zI x1, zI x2], [zI sx0], SH, M, L) := zEx_run [4, 12, 25, 42] 4 (by decide) (h)
set_option maxRecDepth 20000 in
theorem g_lt_list_12 {d : Nat} {M L : zM} {Q : Int → zW → Prop} {x1 x2 sx0 : Int} 
    (h : Q sx0 (SH, M, L)) :
    zEx (d + 1) m_lt_list zb0 Q 12 ([zR 0, zI x1, zI x2], [zI sx0], SH, M, L) := zEx_run [4, 12, 25, 42] 2 (by decide) (h)
set_option maxRecDepth 20000 in
theorem g_lt_list_25 {d : Nat} {M L : zM} {Q : Int → zW → Prop} {x1 x2 sx0 : Int} 
    (h : Q sx0 (SH, M, L)) :
    zEx (d + 1) m_lt_list zb0 Q 25 ([zR 0, zI x1, zI x2], [zI sx0], SH, M, L) := zEx_run [4, 12, 25, 42] 2 (by decide) (h)
set_option maxRecDepth 20000 in
theorem g_lt_list_42 {d : Nat} {M L : zM} {Q : Int → zW → Prop} {x1 x2 : Int} 
    (h : Q 1 (SH, M, L)) :
    zEx (d + 1) m_lt_list zb0 Q 42 ([zR 0, zI x1, zI x2], [], SH, M, L) := zEx_run [4, 12, 25, 42] 2 (by decide) (h)
set_option maxRecDepth 20000 in
theorem g_lt_put_0 {d : Nat} {M L : zM} {Q : Int → zW → Prop} {x1 x2 x3 : Int} 
    (h : zEv d m_lt_noList [zI x1] (SH, M, L) (fun x w => zEx (d + 1) m_lt_put zb0 Q 4 ([zR 0, zI x1, zI x2, zI x3, zN], [zI x], w))) :
    zEx (d + 1) m_lt_put zb0 Q 0 ([zR 0, zI x1, zI x2, zI x3, zN], [], SH, M, L) := zEx_run [4, 12, 21, 35, 44, 57] 2 (by decide) (h)
set_option maxRecDepth 20000 in
theorem g_lt_put_4 {d : Nat} {M L : zM} {Q : Int → zW → Prop} {x1 x2 x3 sx0 : Int} 
    (h : if sx0 = 0 then zEv d m_nu_lacks [zR 70, zI x1] (SH, M, L) (fun x w => zEx (d + 1) m_lt_put zb0 Q 21 ([zR 0, zI x1, zI x2, zI x3, zN], [zI x], w)) else zEv d m_lt_refuse [zR 0, zI (-1)] (SH, M, L) (fun x w => zEx (d + 1) m_lt_put zb0 Q 12 ([zR 0, zI x1, zI x2, zI x3, zN], [zI x], w))) :
    zEx (d + 1) m_lt_put zb0 Q 4 ([zR 0, zI x1, zI x2, zI x3, zN], [zI sx0], SH, M, L) := zEx_run [4, 12, 21, 35, 44, 57] 2 (by decide) (h)
set_option maxRecDepth 20000 in
theorem g_lt_put_12 {d : Nat} {M L : zM} {Q : Int → zW → Prop} {x1 x2 x3 sx0 : Int} 
    (h : Q sx0 (SH, M, L)) :
    zEx (d + 1) m_lt_put zb0 Q 12 ([zR 0, zI x1, zI x2, zI x3, zN], [zI sx0], SH, M, L) := zEx_run [4, 12, 21, 35, 44, 57] 2 (by decide) (h)
set_option maxRecDepth 20000 in
theorem g_lt_put_21 {d : Nat} {M L : zM} {Q : Int → zW → Prop} {x1 x2 x3 sx0 : Int} 
    (h : if sx0 = 0 then zEv d m_nu_row [zR 70, zI x1] (SH, M, L) (fun x w => zEx (d + 1) m_lt_put zb0 Q 35 ([zR 0, zI x1, zI x2, zI x3, zN], [zR x.toNat], w)) else Q (-11) (SH, M, L)) :
    zEx (d + 1) m_lt_put zb0 Q 21 ([zR 0, zI x1, zI x2, zI x3, zN], [zI sx0], SH, M, L) := zEx_run [4, 12, 21, 35, 44, 57] 2 (by decide) (h)
set_option maxRecDepth 20000 in
theorem g_lt_put_35 {d : Nat} {M L : zM} {Q : Int → zW → Prop} {x1 x2 x3 : Int} {sr0 : Nat} (hsr0 : zRow sr0)
    (h : zEv d m_ro_has [zR sr0, zI x2, zI 1] (SH, M, L) (fun x w => zEx (d + 1) m_lt_put zb0 Q 44 ([zR 0, zI x1, zI x2, zI x3, zR sr0], [zI x], w))) :
    zEx (d + 1) m_lt_put zb0 Q 35 ([zR 0, zI x1, zI x2, zI x3, zN], [zR sr0], SH, M, L) := zEx_run [4, 12, 21, 35, 44, 57] 2 (by decide) (zkq_i hsr0.1 (h))
set_option maxRecDepth 20000 in
theorem g_lt_put_44 {d : Nat} {M L : zM} {Q : Int → zW → Prop} {x1 x2 x3 sx0 : Int} {r4 : Nat} (hr4 : zRow r4)
    (h : if sx0 = 0 then Q (-13) (SH, M, L) else zEv d m_ro_set [zR r4, zI x2, zI x3] (SH, M, L) (fun _ w => zEx (d + 1) m_lt_put zb0 Q 57 ([zR 0, zI x1, zI x2, zI x3, zR r4], [], w))) :
    zEx (d + 1) m_lt_put zb0 Q 44 ([zR 0, zI x1, zI x2, zI x3, zR r4], [zI sx0], SH, M, L) := zEx_run [4, 12, 21, 35, 44, 57] 2 (by decide) (zit (c := sx0 = 0) h (fun h => h) (fun h => zkq_i hr4.1 (h)))
set_option maxRecDepth 20000 in
theorem g_lt_put_57 {d : Nat} {M L : zM} {Q : Int → zW → Prop} {x1 x2 x3 : Int} {r4 : Nat} (hr4 : zRow r4)
    (h : Q 1 (SH, M, L)) :
    zEx (d + 1) m_lt_put zb0 Q 57 ([zR 0, zI x1, zI x2, zI x3, zR r4], [], SH, M, L) := zEx_run [4, 12, 21, 35, 44, 57] 2 (by decide) (h)
set_option maxRecDepth 20000 in
theorem g_lt_look_0 {d : Nat} {M L : zM} {Q : Int → zW → Prop} {x1 x2 : Int} 
    (h : zEv d m_lt_noList [zI x1] (SH, M, L) (fun x w => zEx (d + 1) m_lt_look zb0 Q 4 ([zR 0, zI x1, zI x2, zN], [zI x], w))) :
    zEx (d + 1) m_lt_look zb0 Q 0 ([zR 0, zI x1, zI x2, zN], [], SH, M, L) := zEx_run [4, 12, 21, 36, 43, 55] 2 (by decide) (h)
set_option maxRecDepth 20000 in
theorem g_lt_look_4 {d : Nat} {M L : zM} {Q : Int → zW → Prop} {x1 x2 sx0 : Int} 
    (h : if sx0 = 0 then zEv d m_nu_lacks [zR 70, zI x1] (SH, M, L) (fun x w => zEx (d + 1) m_lt_look zb0 Q 21 ([zR 0, zI x1, zI x2, zN], [zI x], w)) else zEv d m_lt_refuseFar [zR 0, zI (-1)] (SH, M, L) (fun x w => zEx (d + 1) m_lt_look zb0 Q 12 ([zR 0, zI x1, zI x2, zN], [zL x], w))) :
    zEx (d + 1) m_lt_look zb0 Q 4 ([zR 0, zI x1, zI x2, zN], [zI sx0], SH, M, L) := zEx_run [4, 12, 21, 36, 43, 55] 2 (by decide) (h)
set_option maxRecDepth 20000 in
theorem g_lt_look_12 {d : Nat} {M L : zM} {Q : Int → zW → Prop} {x1 x2 sy0 : Int} 
    (h : Q sy0 (SH, M, L)) :
    zEx (d + 1) m_lt_look zb0 Q 12 ([zR 0, zI x1, zI x2, zN], [zL sy0], SH, M, L) := zEx_run [4, 12, 21, 36, 43, 55] 2 (by decide) (h)
set_option maxRecDepth 20000 in
theorem g_lt_look_21 {d : Nat} {M L : zM} {Q : Int → zW → Prop} {x1 x2 sx0 : Int} 
    (h : if sx0 = 0 then zEv d m_nu_row [zR 70, zI x1] (SH, M, L) (fun x w => zEx (d + 1) m_lt_look zb0 Q 36 ([zR 0, zI x1, zI x2, zN], [zR x.toNat], w)) else Q 4000000000000000011 (SH, M, L)) :
    zEx (d + 1) m_lt_look zb0 Q 21 ([zR 0, zI x1, zI x2, zN], [zI sx0], SH, M, L) := zEx_run [4, 12, 21, 36, 43, 55] 2 (by decide) (h)
set_option maxRecDepth 20000 in
theorem g_lt_look_36 {d : Nat} {M L : zM} {Q : Int → zW → Prop} {x1 x2 : Int} {sr0 : Nat} (hsr0 : zRow sr0)
    (h : zEv d m_ro_has [zR sr0, zI x2, zI 1] (SH, M, L) (fun x w => zEx (d + 1) m_lt_look zb0 Q 43 ([zR 0, zI x1, zI x2, zR sr0], [zI x], w))) :
    zEx (d + 1) m_lt_look zb0 Q 36 ([zR 0, zI x1, zI x2, zN], [zR sr0], SH, M, L) := zEx_run [4, 12, 21, 36, 43, 55] 2 (by decide) (zkq_i hsr0.1 (h))
set_option maxRecDepth 20000 in
theorem g_lt_look_43 {d : Nat} {M L : zM} {Q : Int → zW → Prop} {x1 x2 sx0 : Int} {r3 : Nat} (hr3 : zRow r3)
    (h : if sx0 = 0 then Q 4000000000000000013 (SH, M, L) else zEv d m_ro_get [zR r3, zI x2] (SH, M, L) (fun x w => zEx (d + 1) m_lt_look zb0 Q 55 ([zR 0, zI x1, zI x2, zR r3], [zI x], w))) :
    zEx (d + 1) m_lt_look zb0 Q 43 ([zR 0, zI x1, zI x2, zR r3], [zI sx0], SH, M, L) := zEx_run [4, 12, 21, 36, 43, 55] 2 (by decide) (zit (c := sx0 = 0) h (fun h => h) (fun h => zkq_i hr3.1 (h)))
set_option maxRecDepth 20000 in
theorem g_lt_look_55 {d : Nat} {M L : zM} {Q : Int → zW → Prop} {x1 x2 sx0 : Int} {r3 : Nat} (hr3 : zRow r3)
    (h : Q sx0 (SH, M, L)) :
    zEx (d + 1) m_lt_look zb0 Q 55 ([zR 0, zI x1, zI x2, zR r3], [zI sx0], SH, M, L) := zEx_run [4, 12, 21, 36, 43, 55] 2 (by decide) (h)
set_option maxRecDepth 20000 in
theorem g_lt_from_0 {d : Nat} {M L : zM} {Q : Int → zW → Prop} {x1 x2 x3 : Int} 
    (h : zEv d m_lt_noList [zI x1] (SH, M, L) (fun x w => zEx (d + 1) m_lt_from zb0 Q 4 ([zR 0, zI x1, zI x2, zI x3, zN], [zI x], w))) :
    zEx (d + 1) m_lt_from zb0 Q 0 ([zR 0, zI x1, zI x2, zI x3, zN], [], SH, M, L) := zEx_run [4, 12, 23, 37, 46, 55, 69, 78, 91, 102, 109, 118, 130] 2 (by decide) (h)
set_option maxRecDepth 20000 in
theorem g_lt_from_4 {d : Nat} {M L : zM} {Q : Int → zW → Prop} {x1 x2 x3 sx0 : Int} 
    (h : if sx0 = 0 then if x3 < 0 then zEv d m_lt_refuse [zR 0, zI (-4)] (SH, M, L) (fun x w => zEx (d + 1) m_lt_from zb0 Q 23 ([zR 0, zI x1, zI x2, zI x3, zN], [zI x], w)) else if 14 < x3 then zEv d m_lt_refuse [zR 0, zI (-6)] (SH, M, L) (fun x w => zEx (d + 1) m_lt_from zb0 Q 46 ([zR 0, zI x1, zI x2, zI x3, zN], [zI x], w)) else zEv d m_sh_isFull [zR 7] (SH, M, L) (fun x w => zEx (d + 1) m_lt_from zb0 Q 37 ([zR 0, zI x1, zI x2, zI x3, zN], [zI x], w)) else zEv d m_lt_refuse [zR 0, zI (-1)] (SH, M, L) (fun x w => zEx (d + 1) m_lt_from zb0 Q 12 ([zR 0, zI x1, zI x2, zI x3, zN], [zI x], w))) :
    zEx (d + 1) m_lt_from zb0 Q 4 ([zR 0, zI x1, zI x2, zI x3, zN], [zI sx0], SH, M, L) := zEx_run [4, 12, 23, 37, 46, 55, 69, 78, 91, 102, 109, 118, 130] 4 (by decide) (h)
set_option maxRecDepth 20000 in
theorem g_lt_from_12 {d : Nat} {M L : zM} {Q : Int → zW → Prop} {x1 x2 x3 sx0 : Int} 
    (h : Q sx0 (SH, M, L)) :
    zEx (d + 1) m_lt_from zb0 Q 12 ([zR 0, zI x1, zI x2, zI x3, zN], [zI sx0], SH, M, L) := zEx_run [4, 12, 23, 37, 46, 55, 69, 78, 91, 102, 109, 118, 130] 2 (by decide) (h)
set_option maxRecDepth 20000 in
theorem g_lt_from_23 {d : Nat} {M L : zM} {Q : Int → zW → Prop} {x1 x2 x3 sx0 : Int} 
    (h : Q sx0 (SH, M, L)) :
    zEx (d + 1) m_lt_from zb0 Q 23 ([zR 0, zI x1, zI x2, zI x3, zN], [zI sx0], SH, M, L) := zEx_run [4, 12, 23, 37, 46, 55, 69, 78, 91, 102, 109, 118, 130] 2 (by decide) (h)
set_option maxRecDepth 20000 in
theorem g_lt_from_37 {d : Nat} {M L : zM} {Q : Int → zW → Prop} {x1 x2 x3 sx0 : Int} 
    (h : if sx0 = 0 then zEv d m_nu_lacks [zR 70, zI x1] (SH, M, L) (fun x w => zEx (d + 1) m_lt_from zb0 Q 55 ([zR 0, zI x1, zI x2, zI x3, zN], [zI x], w)) else zEv d m_lt_refuse [zR 0, zI (-6)] (SH, M, L) (fun x w => zEx (d + 1) m_lt_from zb0 Q 46 ([zR 0, zI x1, zI x2, zI x3, zN], [zI x], w))) :
    zEx (d + 1) m_lt_from zb0 Q 37 ([zR 0, zI x1, zI x2, zI x3, zN], [zI sx0], SH, M, L) := zEx_run [4, 12, 23, 37, 46, 55, 69, 78, 91, 102, 109, 118, 130] 2 (by decide) (h)
set_option maxRecDepth 20000 in
theorem g_lt_from_46 {d : Nat} {M L : zM} {Q : Int → zW → Prop} {x1 x2 x3 sx0 : Int} 
    (h : Q sx0 (SH, M, L)) :
    zEx (d + 1) m_lt_from zb0 Q 46 ([zR 0, zI x1, zI x2, zI x3, zN], [zI sx0], SH, M, L) := zEx_run [4, 12, 23, 37, 46, 55, 69, 78, 91, 102, 109, 118, 130] 2 (by decide) (h)
set_option maxRecDepth 20000 in
theorem g_lt_from_55 {d : Nat} {M L : zM} {Q : Int → zW → Prop} {x1 x2 x3 sx0 : Int} 
    (h : if sx0 = 0 then zEv d m_nu_row [zR 70, zI x1] (SH, M, L) (fun x w => zEx (d + 1) m_lt_from zb0 Q 69 ([zR 0, zI x1, zI x2, zI x3, zN], [zR x.toNat], w)) else Q (-11) (SH, M, L)) :
    zEx (d + 1) m_lt_from zb0 Q 55 ([zR 0, zI x1, zI x2, zI x3, zN], [zI sx0], SH, M, L) := zEx_run [4, 12, 23, 37, 46, 55, 69, 78, 91, 102, 109, 118, 130] 2 (by decide) (h)
set_option maxRecDepth 20000 in
theorem g_lt_from_69 {d : Nat} {M L : zM} {Q : Int → zW → Prop} {x1 x2 x3 : Int} {sr0 : Nat} (hsr0 : zRow sr0)
    (h : zEv d m_ro_has [zR sr0, zI x2, zI x3] (SH, M, L) (fun x w => zEx (d + 1) m_lt_from zb0 Q 78 ([zR 0, zI x1, zI x2, zI x3, zR sr0], [zI x], w))) :
    zEx (d + 1) m_lt_from zb0 Q 69 ([zR 0, zI x1, zI x2, zI x3, zN], [zR sr0], SH, M, L) := zEx_run [4, 12, 23, 37, 46, 55, 69, 78, 91, 102, 109, 118, 130] 2 (by decide) (zkq_i hsr0.1 (h))
set_option maxRecDepth 20000 in
theorem g_lt_from_78 {d : Nat} {M L : zM} {Q : Int → zW → Prop} {x1 x2 x3 sx0 : Int} {r4 : Nat} (hr4 : zRow r4)
    (h : if sx0 = 0 then Q (-13) (SH, M, L) else zEv d m_ro_clear [zR 108] (SH, M, L) (fun _ w => zEx (d + 1) m_lt_from zb0 Q 91 ([zR 0, zI x1, zI x2, zI x3, zR r4], [], w))) :
    zEx (d + 1) m_lt_from zb0 Q 78 ([zR 0, zI x1, zI x2, zI x3, zR r4], [zI sx0], SH, M, L) := zEx_run [4, 12, 23, 37, 46, 55, 69, 78, 91, 102, 109, 118, 130] 2 (by decide) (h)
set_option maxRecDepth 20000 in
theorem g_lt_from_91 {d : Nat} {M L : zM} {Q : Int → zW → Prop} {x1 x2 x3 : Int} {r4 : Nat} (hr4 : zRow r4)
    (h : zEv d m_ro_appendPiece [zR 108, zR r4, zI x2, zI x3] (SH, M, L) (fun _ w => zEx (d + 1) m_lt_from zb0 Q 102 ([zR 0, zI x1, zI x2, zI x3, zR r4], [], w))) :
    zEx (d + 1) m_lt_from zb0 Q 91 ([zR 0, zI x1, zI x2, zI x3, zR r4], [], SH, M, L) := zEx_run [4, 12, 23, 37, 46, 55, 69, 78, 91, 102, 109, 118, 130] 2 (by decide) (h)
set_option maxRecDepth 20000 in
theorem g_lt_from_102 {d : Nat} {M L : zM} {Q : Int → zW → Prop} {x1 x2 x3 : Int} {r4 : Nat} (hr4 : zRow r4)
    (h : zEv d m_ro_isWord [zR 108] (SH, M, L) (fun x w => zEx (d + 1) m_lt_from zb0 Q 109 ([zR 0, zI x1, zI x2, zI x3, zR r4], [zI x], w))) :
    zEx (d + 1) m_lt_from zb0 Q 102 ([zR 0, zI x1, zI x2, zI x3, zR r4], [], SH, M, L) := zEx_run [4, 12, 23, 37, 46, 55, 69, 78, 91, 102, 109, 118, 130] 2 (by decide) (h)
set_option maxRecDepth 20000 in
theorem g_lt_from_109 {d : Nat} {M L : zM} {Q : Int → zW → Prop} {x1 x2 x3 sx0 : Int} {r4 : Nat} (hr4 : zRow r4)
    (h : if sx0 = 0 then zEv d m_lt_refuse [zR 0, zI (-3)] (SH, M, L) (fun x w => zEx (d + 1) m_lt_from zb0 Q 118 ([zR 0, zI x1, zI x2, zI x3, zR r4], [zI x], w)) else zEv d m_sh_place [zR 7, zR 108] (SH, M, L) (fun x w => zEx (d + 1) m_lt_from zb0 Q 130 ([zR 0, zI x1, zI x2, zI x3, zR r4], [zI x], w))) :
    zEx (d + 1) m_lt_from zb0 Q 109 ([zR 0, zI x1, zI x2, zI x3, zR r4], [zI sx0], SH, M, L) := zEx_run [4, 12, 23, 37, 46, 55, 69, 78, 91, 102, 109, 118, 130] 2 (by decide) (h)
set_option maxRecDepth 20000 in
theorem g_lt_from_118 {d : Nat} {M L : zM} {Q : Int → zW → Prop} {x1 x2 x3 sx0 : Int} {r4 : Nat} (hr4 : zRow r4)
    (h : Q sx0 (SH, M, L)) :
    zEx (d + 1) m_lt_from zb0 Q 118 ([zR 0, zI x1, zI x2, zI x3, zR r4], [zI sx0], SH, M, L) := zEx_run [4, 12, 23, 37, 46, 55, 69, 78, 91, 102, 109, 118, 130] 2 (by decide) (h)
set_option maxRecDepth 20000 in
theorem g_lt_from_130 {d : Nat} {M L : zM} {Q : Int → zW → Prop} {x1 x2 x3 sx0 : Int} {r4 : Nat} (hr4 : zRow r4)
    (h : Q sx0 (SH, M, L)) :
    zEx (d + 1) m_lt_from zb0 Q 130 ([zR 0, zI x1, zI x2, zI x3, zR r4], [zI sx0], SH, M, L) := zEx_run [4, 12, 23, 37, 46, 55, 69, 78, 91, 102, 109, 118, 130] 2 (by decide) (h)
set_option maxRecDepth 20000 in
theorem g_lt_lays_0 {d : Nat} {M L : zM} {Q : Int → zW → Prop} {x1 x2 x3 : Int} 
    (h : zEv d m_lt_noList [zI x1] (SH, M, L) (fun x w => zEx (d + 1) m_lt_lays zb0 Q 4 ([zR 0, zI x1, zI x2, zI x3, zN, zN], [zI x], w))) :
    zEx (d + 1) m_lt_lays zb0 Q 0 ([zR 0, zI x1, zI x2, zI x3, zN, zN], [], SH, M, L) := zEx_run [4, 12, 20, 29, 43, 53, 63, 66, 86, 96, 103] 2 (by decide) (h)
set_option maxRecDepth 20000 in
theorem g_lt_lays_4 {d : Nat} {M L : zM} {Q : Int → zW → Prop} {x1 x2 x3 sx0 : Int} 
    (h : if sx0 = 0 then zEv d m_lt_noWord [zR 0, zI x3] (SH, M, L) (fun x w => zEx (d + 1) m_lt_lays zb0 Q 12 ([zR 0, zI x1, zI x2, zI x3, zN, zN], [zI x], w)) else zEv d m_lt_refuse [zR 0, zI (-1)] (SH, M, L) (fun x w => zEx (d + 1) m_lt_lays zb0 Q 20 ([zR 0, zI x1, zI x2, zI x3, zN, zN], [zI x], w))) :
    zEx (d + 1) m_lt_lays zb0 Q 4 ([zR 0, zI x1, zI x2, zI x3, zN, zN], [zI sx0], SH, M, L) := zEx_run [4, 12, 20, 29, 43, 53, 63, 66, 86, 96, 103] 2 (by decide) (h)
set_option maxRecDepth 20000 in
theorem g_lt_lays_12 {d : Nat} {M L : zM} {Q : Int → zW → Prop} {x1 x2 x3 sx0 : Int} 
    (h : if sx0 = 0 then zEv d m_nu_lacks [zR 70, zI x1] (SH, M, L) (fun x w => zEx (d + 1) m_lt_lays zb0 Q 29 ([zR 0, zI x1, zI x2, zI x3, zN, zN], [zI x], w)) else zEv d m_lt_refuse [zR 0, zI (-1)] (SH, M, L) (fun x w => zEx (d + 1) m_lt_lays zb0 Q 20 ([zR 0, zI x1, zI x2, zI x3, zN, zN], [zI x], w))) :
    zEx (d + 1) m_lt_lays zb0 Q 12 ([zR 0, zI x1, zI x2, zI x3, zN, zN], [zI sx0], SH, M, L) := zEx_run [4, 12, 20, 29, 43, 53, 63, 66, 86, 96, 103] 2 (by decide) (h)
set_option maxRecDepth 20000 in
theorem g_lt_lays_20 {d : Nat} {M L : zM} {Q : Int → zW → Prop} {x1 x2 x3 sx0 : Int} 
    (h : Q sx0 (SH, M, L)) :
    zEx (d + 1) m_lt_lays zb0 Q 20 ([zR 0, zI x1, zI x2, zI x3, zN, zN], [zI sx0], SH, M, L) := zEx_run [4, 12, 20, 29, 43, 53, 63, 66, 86, 96, 103] 2 (by decide) (h)
set_option maxRecDepth 20000 in
theorem g_lt_lays_29 {d : Nat} {M L : zM} {Q : Int → zW → Prop} {x1 x2 x3 sx0 : Int} 
    (h : if sx0 = 0 then zEv d m_nu_row [zR 70, zI x1] (SH, M, L) (fun x w => zEx (d + 1) m_lt_lays zb0 Q 43 ([zR 0, zI x1, zI x2, zI x3, zN, zN], [zR x.toNat], w)) else Q (-11) (SH, M, L)) :
    zEx (d + 1) m_lt_lays zb0 Q 29 ([zR 0, zI x1, zI x2, zI x3, zN, zN], [zI sx0], SH, M, L) := zEx_run [4, 12, 20, 29, 43, 53, 63, 66, 86, 96, 103] 2 (by decide) (h)
set_option maxRecDepth 20000 in
theorem g_lt_lays_43 {d : Nat} {M L : zM} {Q : Int → zW → Prop} {x1 x2 x3 : Int} {sr0 : Nat} (hsr0 : zRow sr0)
    (h : zEv d m_sh_row [zR 7, zI x3] (SH, M, L) (fun x w => zEx (d + 1) m_lt_lays zb0 Q 53 ([zR 0, zI x1, zI x2, zI x3, zR sr0, zN], [zR x.toNat], w))) :
    zEx (d + 1) m_lt_lays zb0 Q 43 ([zR 0, zI x1, zI x2, zI x3, zN, zN], [zR sr0], SH, M, L) := zEx_run [4, 12, 20, 29, 43, 53, 63, 66, 86, 96, 103] 2 (by decide) (h)
set_option maxRecDepth 20000 in
theorem g_lt_lays_53 {d : Nat} {M L : zM} {Q : Int → zW → Prop} {x1 x2 x3 : Int} {r4 sr0 : Nat} (hr4 : zRow r4) (hsr0 : zRow sr0)
    (h : zEv d m_ro_size [zR sr0] (SH, M, L) (fun x w => zEx (d + 1) m_lt_lays zb0 Q 63 ([zR 0, zI x1, zI x2, zI x3, zR r4, zR sr0], [zI x, zI x2, zR r4], w))) :
    zEx (d + 1) m_lt_lays zb0 Q 53 ([zR 0, zI x1, zI x2, zI x3, zR r4, zN], [zR sr0], SH, M, L) := zEx_run [4, 12, 20, 29, 43, 53, 63, 66, 86, 96, 103] 2 (by decide) (zkq_i hsr0.1 (h))
set_option maxRecDepth 20000 in
theorem g_lt_lays_63 {d : Nat} {M L : zM} {Q : Int → zW → Prop} {x1 x2 x3 sx0 sx1 : Int} {r4 r5 sr2 : Nat} (hr4 : zRow r4) (hr5 : zRow r5) (hsr2 : zRow sr2)
    (h : zEv d m_ro_has [zR sr2, zI sx1, zI sx0] (SH, M, L) (fun x w => zEx (d + 1) m_lt_lays zb0 Q 66 ([zR 0, zI x1, zI x2, zI x3, zR r4, zR r5], [zI x], w))) :
    zEx (d + 1) m_lt_lays zb0 Q 63 ([zR 0, zI x1, zI x2, zI x3, zR r4, zR r5], [zI sx0, zI sx1, zR sr2], SH, M, L) := zEx_run [4, 12, 20, 29, 43, 53, 63, 66, 86, 96, 103] 2 (by decide) (zkq_i hsr2.1 (h))
set_option maxRecDepth 20000 in
theorem g_lt_lays_66 {d : Nat} {M L : zM} {Q : Int → zW → Prop} {x1 x2 x3 sx0 : Int} {r4 r5 : Nat} (hr4 : zRow r4) (hr5 : zRow r5)
    (h : if sx0 = 0 then Q (-13) (SH, M, L) else zEv d m_be_arrange [zR 82, zR r5, zI 0, zR 108] (SH, M, L) (fun _ w => zEx (d + 1) m_lt_lays zb0 Q 86 ([zR 0, zI x1, zI x2, zI x3, zR r4, zR r5], [], w))) :
    zEx (d + 1) m_lt_lays zb0 Q 66 ([zR 0, zI x1, zI x2, zI x3, zR r4, zR r5], [zI sx0], SH, M, L) := zEx_run [4, 12, 20, 29, 43, 53, 63, 66, 86, 96, 103] 2 (by decide) (h)
set_option maxRecDepth 20000 in
theorem g_lt_lays_86 {d : Nat} {M L : zM} {Q : Int → zW → Prop} {x1 x2 x3 : Int} {r4 r5 : Nat} (hr4 : zRow r4) (hr5 : zRow r5)
    (h : zEv d m_ro_overwrite [zR r4, zI x2, zR 108] (SH, M, L) (fun _ w => zEx (d + 1) m_lt_lays zb0 Q 96 ([zR 0, zI x1, zI x2, zI x3, zR r4, zR r5], [], w))) :
    zEx (d + 1) m_lt_lays zb0 Q 86 ([zR 0, zI x1, zI x2, zI x3, zR r4, zR r5], [], SH, M, L) := zEx_run [4, 12, 20, 29, 43, 53, 63, 66, 86, 96, 103] 2 (by decide) (zkq_i hr4.1 (h))
set_option maxRecDepth 20000 in
theorem g_lt_lays_96 {d : Nat} {M L : zM} {Q : Int → zW → Prop} {x1 x2 x3 : Int} {r4 r5 : Nat} (hr4 : zRow r4) (hr5 : zRow r5)
    (h : zEv d m_ro_size [zR 108] (SH, M, L) (fun x w => zEx (d + 1) m_lt_lays zb0 Q 103 ([zR 0, zI x1, zI x2, zI x3, zR r4, zR r5], [zI x], w))) :
    zEx (d + 1) m_lt_lays zb0 Q 96 ([zR 0, zI x1, zI x2, zI x3, zR r4, zR r5], [], SH, M, L) := zEx_run [4, 12, 20, 29, 43, 53, 63, 66, 86, 96, 103] 2 (by decide) (h)
set_option maxRecDepth 20000 in
theorem g_lt_lays_103 {d : Nat} {M L : zM} {Q : Int → zW → Prop} {x1 x2 x3 sx0 : Int} {r4 r5 : Nat} (hr4 : zRow r4) (hr5 : zRow r5)
    (h : Q sx0 (SH, M, L)) :
    zEx (d + 1) m_lt_lays zb0 Q 103 ([zR 0, zI x1, zI x2, zI x3, zR r4, zR r5], [zI sx0], SH, M, L) := zEx_run [4, 12, 20, 29, 43, 53, 63, 66, 86, 96, 103] 2 (by decide) (h)
set_option maxRecDepth 20000 in
theorem g_lt_judge_0 {d : Nat} {M L : zM} {Q : Int → zW → Prop} {x1 x2 : Int} 
    (h : zEv d m_lt_noList [zI x1] (SH, M, L) (fun x w => zEx (d + 1) m_lt_judge zb0 Q 4 ([zR 0, zI x1, zI x2], [zI x], w))) :
    zEx (d + 1) m_lt_judge zb0 Q 0 ([zR 0, zI x1, zI x2], [], SH, M, L) := zEx_run [4, 12, 20, 29, 43, 51, 54] 2 (by decide) (h)
set_option maxRecDepth 20000 in
theorem g_lt_judge_4 {d : Nat} {M L : zM} {Q : Int → zW → Prop} {x1 x2 sx0 : Int} 
    (h : if sx0 = 0 then zEv d m_lt_noWord [zR 0, zI x2] (SH, M, L) (fun x w => zEx (d + 1) m_lt_judge zb0 Q 12 ([zR 0, zI x1, zI x2], [zI x], w)) else zEv d m_lt_refuse [zR 0, zI (-1)] (SH, M, L) (fun x w => zEx (d + 1) m_lt_judge zb0 Q 20 ([zR 0, zI x1, zI x2], [zI x], w))) :
    zEx (d + 1) m_lt_judge zb0 Q 4 ([zR 0, zI x1, zI x2], [zI sx0], SH, M, L) := zEx_run [4, 12, 20, 29, 43, 51, 54] 2 (by decide) (h)
set_option maxRecDepth 20000 in
theorem g_lt_judge_12 {d : Nat} {M L : zM} {Q : Int → zW → Prop} {x1 x2 sx0 : Int} 
    (h : if sx0 = 0 then zEv d m_nu_lacks [zR 70, zI x1] (SH, M, L) (fun x w => zEx (d + 1) m_lt_judge zb0 Q 29 ([zR 0, zI x1, zI x2], [zI x], w)) else zEv d m_lt_refuse [zR 0, zI (-1)] (SH, M, L) (fun x w => zEx (d + 1) m_lt_judge zb0 Q 20 ([zR 0, zI x1, zI x2], [zI x], w))) :
    zEx (d + 1) m_lt_judge zb0 Q 12 ([zR 0, zI x1, zI x2], [zI sx0], SH, M, L) := zEx_run [4, 12, 20, 29, 43, 51, 54] 2 (by decide) (h)
set_option maxRecDepth 20000 in
theorem g_lt_judge_20 {d : Nat} {M L : zM} {Q : Int → zW → Prop} {x1 x2 sx0 : Int} 
    (h : Q sx0 (SH, M, L)) :
    zEx (d + 1) m_lt_judge zb0 Q 20 ([zR 0, zI x1, zI x2], [zI sx0], SH, M, L) := zEx_run [4, 12, 20, 29, 43, 51, 54] 2 (by decide) (h)
set_option maxRecDepth 20000 in
theorem g_lt_judge_29 {d : Nat} {M L : zM} {Q : Int → zW → Prop} {x1 x2 sx0 : Int} 
    (h : if sx0 = 0 then zEv d m_nu_row [zR 70, zI x1] (SH, M, L) (fun x w => zEx (d + 1) m_lt_judge zb0 Q 43 ([zR 0, zI x1, zI x2], [zR x.toNat], w)) else Q (-11) (SH, M, L)) :
    zEx (d + 1) m_lt_judge zb0 Q 29 ([zR 0, zI x1, zI x2], [zI sx0], SH, M, L) := zEx_run [4, 12, 20, 29, 43, 51, 54] 2 (by decide) (h)
set_option maxRecDepth 20000 in
theorem g_lt_judge_43 {d : Nat} {M L : zM} {Q : Int → zW → Prop} {x1 x2 : Int} {sr0 : Nat} (hsr0 : zRow sr0)
    (h : zEv d m_sh_row [zR 7, zI x2] (SH, M, L) (fun x w => zEx (d + 1) m_lt_judge zb0 Q 51 ([zR 0, zI x1, zI x2], [zR x.toNat, zR sr0], w))) :
    zEx (d + 1) m_lt_judge zb0 Q 43 ([zR 0, zI x1, zI x2], [zR sr0], SH, M, L) := zEx_run [4, 12, 20, 29, 43, 51, 54] 2 (by decide) (h)
set_option maxRecDepth 20000 in
theorem g_lt_judge_51 {d : Nat} {M L : zM} {Q : Int → zW → Prop} {x1 x2 : Int} {sr0 sr1 : Nat} (hsr0 : zRow sr0) (hsr1 : zRow sr1)
    (h : zEv d m_ro_firstOther [zR sr1, zR sr0] (SH, M, L) (fun x w => zEx (d + 1) m_lt_judge zb0 Q 54 ([zR 0, zI x1, zI x2], [zI x], w))) :
    zEx (d + 1) m_lt_judge zb0 Q 51 ([zR 0, zI x1, zI x2], [zR sr0, zR sr1], SH, M, L) := zEx_run [4, 12, 20, 29, 43, 51, 54] 2 (by decide) (zkq_i hsr1.1 (h))
set_option maxRecDepth 20000 in
theorem g_lt_judge_54 {d : Nat} {M L : zM} {Q : Int → zW → Prop} {x1 x2 sx0 : Int} 
    (h : Q sx0 (SH, M, L)) :
    zEx (d + 1) m_lt_judge zb0 Q 54 ([zR 0, zI x1, zI x2], [zI sx0], SH, M, L) := zEx_run [4, 12, 20, 29, 43, 51, 54] 2 (by decide) (h)
set_option maxRecDepth 20000 in
theorem g_lt_undo_0 {d : Nat} {M L : zM} {Q : Int → zW → Prop}  
    (h : zEv d m_hi_size [zR 21] (SH, M, L) (fun x w => zEx (d + 1) m_lt_undo zb0 Q 7 ([zR 0], [zI x], w))) :
    zEx (d + 1) m_lt_undo zb0 Q 0 ([zR 0], [], SH, M, L) := zEx_run [7, 16, 28, 35] 2 (by decide) (h)
set_option maxRecDepth 20000 in
theorem g_lt_undo_7 {d : Nat} {M L : zM} {Q : Int → zW → Prop} {sx0 : Int} 
    (h : if sx0 = 0 then zEv d m_lt_refuse [zR 0, zI (-3)] (SH, M, L) (fun x w => zEx (d + 1) m_lt_undo zb0 Q 16 ([zR 0], [zI x], w)) else zEv d m_hi_takeBack [zR 21, zR 1] (SH, M, L) (fun _ w => zEx (d + 1) m_lt_undo zb0 Q 28 ([zR 0], [], w))) :
    zEx (d + 1) m_lt_undo zb0 Q 7 ([zR 0], [zI sx0], SH, M, L) := zEx_run [7, 16, 28, 35] 2 (by decide) (h)
set_option maxRecDepth 20000 in
theorem g_lt_undo_16 {d : Nat} {M L : zM} {Q : Int → zW → Prop} {sx0 : Int} 
    (h : Q sx0 (SH, M, L)) :
    zEx (d + 1) m_lt_undo zb0 Q 16 ([zR 0], [zI sx0], SH, M, L) := zEx_run [7, 16, 28, 35] 2 (by decide) (h)
set_option maxRecDepth 20000 in
theorem g_lt_undo_28 {d : Nat} {M L : zM} {Q : Int → zW → Prop}  
    (h : zEv d m_hi_size [zR 21] (SH, M, L) (fun x w => zEx (d + 1) m_lt_undo zb0 Q 35 ([zR 0], [zI x], w))) :
    zEx (d + 1) m_lt_undo zb0 Q 28 ([zR 0], [], SH, M, L) := zEx_run [7, 16, 28, 35] 2 (by decide) (h)
set_option maxRecDepth 20000 in
theorem g_lt_undo_35 {d : Nat} {M L : zM} {Q : Int → zW → Prop} {sx0 : Int} 
    (h : Q sx0 (SH, M, L)) :
    zEx (d + 1) m_lt_undo zb0 Q 35 ([zR 0], [zI sx0], SH, M, L) := zEx_run [7, 16, 28, 35] 2 (by decide) (h)
set_option maxRecDepth 20000 in
theorem g_lt_image_0 {d : Nat} {M L : zM} {Q : Int → zW → Prop}  
    (h : zEv d m_la_copy [zR 47, zR 1] (SH, M, L) (fun _ w => zEx (d + 1) m_lt_image zb0 Q 11 ([zR 0], [], w))) :
    zEx (d + 1) m_lt_image zb0 Q 0 ([zR 0], [], SH, M, L) := zEx_run [11, 22, 34] 2 (by decide) (h)
set_option maxRecDepth 20000 in
theorem g_lt_image_11 {d : Nat} {M L : zM} {Q : Int → zW → Prop}  
    (h : zEv d m_sh_copy [zR 50, zR 7] (SH, M, L) (fun _ w => zEx (d + 1) m_lt_image zb0 Q 22 ([zR 0], [], w))) :
    zEx (d + 1) m_lt_image zb0 Q 11 ([zR 0], [], SH, M, L) := zEx_run [11, 22, 34] 2 (by decide) (h)
set_option maxRecDepth 20000 in
theorem g_lt_image_22 {d : Nat} {M L : zM} {Q : Int → zW → Prop}  
    (h : zEv d m_sh_size [zR 7] (SH, (zmu M 0 6 1), L) (fun x w => zEx (d + 1) m_lt_image zb0 Q 34 ([zR 0], [zI x], w))) :
    zEx (d + 1) m_lt_image zb0 Q 22 ([zR 0], [], SH, M, L) := zEx_run [11, 22, 34] 2 (by decide) (h)
set_option maxRecDepth 20000 in
theorem g_lt_image_34 {d : Nat} {M L : zM} {Q : Int → zW → Prop} {sx0 : Int} 
    (h : Q sx0 (SH, M, L)) :
    zEx (d + 1) m_lt_image zb0 Q 34 ([zR 0], [zI sx0], SH, M, L) := zEx_run [11, 22, 34] 2 (by decide) (h)
set_option maxRecDepth 20000 in
theorem g_lt_on_0 {d : Nat} {M L : zM} {Q : Int → zW → Prop}  
    (h : if M 0 6 = 0 then zEv d m_lt_refuse [zR 0, zI (-3)] (SH, M, L) (fun x w => zEx (d + 1) m_lt_on zb0 Q 13 ([zR 0], [zI x], w)) else zEv d m_la_copy [zR 1, zR 47] (SH, M, L) (fun _ w => zEx (d + 1) m_lt_on zb0 Q 25 ([zR 0], [], w))) :
    zEx (d + 1) m_lt_on zb0 Q 0 ([zR 0], [], SH, M, L) := zEx_run [13, 25, 36, 43, 50] 2 (by decide) (h)
set_option maxRecDepth 20000 in
theorem g_lt_on_13 {d : Nat} {M L : zM} {Q : Int → zW → Prop} {sx0 : Int} 
    (h : Q sx0 (SH, M, L)) :
    zEx (d + 1) m_lt_on zb0 Q 13 ([zR 0], [zI sx0], SH, M, L) := zEx_run [13, 25, 36, 43, 50] 2 (by decide) (h)
set_option maxRecDepth 20000 in
theorem g_lt_on_25 {d : Nat} {M L : zM} {Q : Int → zW → Prop}  
    (h : zEv d m_sh_copy [zR 7, zR 50] (SH, M, L) (fun _ w => zEx (d + 1) m_lt_on zb0 Q 36 ([zR 0], [], w))) :
    zEx (d + 1) m_lt_on zb0 Q 25 ([zR 0], [], SH, M, L) := zEx_run [13, 25, 36, 43, 50] 2 (by decide) (h)
set_option maxRecDepth 20000 in
theorem g_lt_on_36 {d : Nat} {M L : zM} {Q : Int → zW → Prop}  
    (h : zEv d m_hi_clear [zR 21] (SH, M, L) (fun _ w => zEx (d + 1) m_lt_on zb0 Q 43 ([zR 0], [], w))) :
    zEx (d + 1) m_lt_on zb0 Q 36 ([zR 0], [], SH, M, L) := zEx_run [13, 25, 36, 43, 50] 2 (by decide) (h)
set_option maxRecDepth 20000 in
theorem g_lt_on_43 {d : Nat} {M L : zM} {Q : Int → zW → Prop}  
    (h : zEv d m_sh_size [zR 7] (SH, M, L) (fun x w => zEx (d + 1) m_lt_on zb0 Q 50 ([zR 0], [zI x], w))) :
    zEx (d + 1) m_lt_on zb0 Q 43 ([zR 0], [], SH, M, L) := zEx_run [13, 25, 36, 43, 50] 2 (by decide) (h)
set_option maxRecDepth 20000 in
theorem g_lt_on_50 {d : Nat} {M L : zM} {Q : Int → zW → Prop} {sx0 : Int} 
    (h : Q sx0 (SH, M, L)) :
    zEx (d + 1) m_lt_on zb0 Q 50 ([zR 0], [zI sx0], SH, M, L) := zEx_run [13, 25, 36, 43, 50] 2 (by decide) (h)
set_option maxRecDepth 20000 in
theorem g_lt_count_0 {d : Nat} {M L : zM} {Q : Int → zW → Prop} {x1 : Int} 
    (h : if x1 < 11 then if x1 = 0 then zEv d m_sh_size [zR 7] (SH, M, L) (fun x w => zEx (d + 1) m_lt_count zb0 Q 63 ([zR 0, zI x1], [zI x], w)) else if x1 = 1 then zEv d m_ro_size [zR 64] (SH, M, L) (fun x w => zEx (d + 1) m_lt_count zb0 Q 71 ([zR 0, zI x1], [zI x], w)) else if x1 = 2 then zEv d m_sh_allLetters [zR 7] (SH, M, L) (fun x w => zEx (d + 1) m_lt_count zb0 Q 79 ([zR 0, zI x1], [zI x], w)) else if x1 = 3 then zEv d m_la_howManyPairs [zR 1] (SH, M, L) (fun x w => zEx (d + 1) m_lt_count zb0 Q 87 ([zR 0, zI x1], [zI x], w)) else if x1 = 4 then zEv d m_hi_size [zR 21] (SH, M, L) (fun x w => zEx (d + 1) m_lt_count zb0 Q 95 ([zR 0, zI x1], [zI x], w)) else Q (-9) (SH, M, L) else if 16 < x1 then if x1 = 0 then zEv d m_sh_size [zR 7] (SH, M, L) (fun x w => zEx (d + 1) m_lt_count zb0 Q 63 ([zR 0, zI x1], [zI x], w)) else if x1 = 1 then zEv d m_ro_size [zR 64] (SH, M, L) (fun x w => zEx (d + 1) m_lt_count zb0 Q 71 ([zR 0, zI x1], [zI x], w)) else if x1 = 2 then zEv d m_sh_allLetters [zR 7] (SH, M, L) (fun x w => zEx (d + 1) m_lt_count zb0 Q 79 ([zR 0, zI x1], [zI x], w)) else if x1 = 3 then zEv d m_la_howManyPairs [zR 1] (SH, M, L) (fun x w => zEx (d + 1) m_lt_count zb0 Q 87 ([zR 0, zI x1], [zI x], w)) else if x1 = 4 then zEv d m_hi_size [zR 21] (SH, M, L) (fun x w => zEx (d + 1) m_lt_count zb0 Q 95 ([zR 0, zI x1], [zI x], w)) else Q (-9) (SH, M, L) else zck (0 ≤ zwr (x1 - 11) ∧ zwr (x1 - 11) < 6) (Q (M 81 (Int.toNat (zwr (x1 - 11)))) (SH, M, L))) :
    zEx (d + 1) m_lt_count zb0 Q 0 ([zR 0, zI x1], [], SH, M, L) := zEx_run [63, 71, 79, 87, 95] 3 (by decide) (h)
set_option maxRecDepth 20000 in
theorem g_lt_count_63 {d : Nat} {M L : zM} {Q : Int → zW → Prop} {x1 sx0 : Int} 
    (h : Q sx0 (SH, M, L)) :
    zEx (d + 1) m_lt_count zb0 Q 63 ([zR 0, zI x1], [zI sx0], SH, M, L) := zEx_run [63, 71, 79, 87, 95] 2 (by decide) (h)
set_option maxRecDepth 20000 in
theorem g_lt_count_71 {d : Nat} {M L : zM} {Q : Int → zW → Prop} {x1 sx0 : Int} 
    (h : Q sx0 (SH, M, L)) :
    zEx (d + 1) m_lt_count zb0 Q 71 ([zR 0, zI x1], [zI sx0], SH, M, L) := zEx_run [63, 71, 79, 87, 95] 2 (by decide) (h)
set_option maxRecDepth 20000 in
theorem g_lt_count_79 {d : Nat} {M L : zM} {Q : Int → zW → Prop} {x1 sx0 : Int} 
    (h : Q sx0 (SH, M, L)) :
    zEx (d + 1) m_lt_count zb0 Q 79 ([zR 0, zI x1], [zI sx0], SH, M, L) := zEx_run [63, 71, 79, 87, 95] 2 (by decide) (h)
set_option maxRecDepth 20000 in
theorem g_lt_count_87 {d : Nat} {M L : zM} {Q : Int → zW → Prop} {x1 sx0 : Int} 
    (h : Q sx0 (SH, M, L)) :
    zEx (d + 1) m_lt_count zb0 Q 87 ([zR 0, zI x1], [zI sx0], SH, M, L) := zEx_run [63, 71, 79, 87, 95] 2 (by decide) (h)
set_option maxRecDepth 20000 in
theorem g_lt_count_95 {d : Nat} {M L : zM} {Q : Int → zW → Prop} {x1 sx0 : Int} 
    (h : Q sx0 (SH, M, L)) :
    zEx (d + 1) m_lt_count zb0 Q 95 ([zR 0, zI x1], [zI sx0], SH, M, L) := zEx_run [63, 71, 79, 87, 95] 2 (by decide) (h)
set_option maxRecDepth 20000 in
theorem g_lt_refuse_0 {d : Nat} {M L : zM} {Q : Int → zW → Prop} {x1 : Int} 
    (h : if zwr ((zwr (-x1)) - 1) < 0 then Q x1 (SH, M, L) else if zwr ((zwr (-x1)) - 1) < 6 then zck (0 ≤ zwr ((zwr (-x1)) - 1) ∧ zwr ((zwr (-x1)) - 1) < 6) (zck (0 ≤ zwr ((zwr (-x1)) - 1) ∧ zwr ((zwr (-x1)) - 1) < 6) (Q x1 (SH, (zmu M 81 (Int.toNat (zwr ((zwr (-x1)) - 1))) (zwr ((M 81 (Int.toNat (zwr ((zwr (-x1)) - 1)))) + 1))), L))) else Q x1 (SH, M, L)) :
    zEx (d + 1) m_lt_refuse zb0 Q 0 ([zR 0, zI x1, zN], [], SH, M, L) := zEx_run [] 2 (by decide) (h)
set_option maxRecDepth 20000 in
theorem g_lt_refuseFar_0 {d : Nat} {M L : zM} {Q : Int → zW → Prop} {x1 : Int} 
    (h : zEv d m_lt_refuse [zR 0, zI x1] (SH, M, L) (fun x w => zEx (d + 1) m_lt_refuseFar zb0 Q 8 ([zR 0, zI x1], [zI x, zL 4000000000000000000], w))) :
    zEx (d + 1) m_lt_refuseFar zb0 Q 0 ([zR 0, zI x1], [], SH, M, L) := zEx_run [8] 2 (by decide) (h)
set_option maxRecDepth 20000 in
theorem g_lt_refuseFar_8 {d : Nat} {M L : zM} {Q : Int → zW → Prop} {x1 sx0 sy1 : Int} 
    (h : Q (zwl (sy1 - sx0)) (SH, M, L)) :
    zEx (d + 1) m_lt_refuseFar zb0 Q 8 ([zR 0, zI x1], [zI sx0, zL sy1], SH, M, L) := zEx_run [8] 2 (by decide) (h)
set_option maxRecDepth 20000 in
theorem g_lt_noWord_0 {d : Nat} {M L : zM} {Q : Int → zW → Prop} {x1 : Int} 
    (h : if x1 < 0 then Q 1 (SH, M, L) else zEv d m_sh_size [zR 7] (SH, M, L) (fun x w => zEx (d + 1) m_lt_noWord zb0 Q 12 ([zR 0, zI x1], [zI x, zI x1], w))) :
    zEx (d + 1) m_lt_noWord zb0 Q 0 ([zR 0, zI x1], [], SH, M, L) := zEx_run [12] 3 (by decide) (h)
set_option maxRecDepth 20000 in
theorem g_lt_noWord_12 {d : Nat} {M L : zM} {Q : Int → zW → Prop} {x1 sx0 sx1 : Int} 
    (h : if sx1 < sx0 then Q 0 (SH, M, L) else Q 1 (SH, M, L)) :
    zEx (d + 1) m_lt_noWord zb0 Q 12 ([zR 0, zI x1], [zI sx0, zI sx1], SH, M, L) := zEx_run [12] 3 (by decide) (h)
set_option maxRecDepth 20000 in
theorem g_lt_tooLongToTurn_0 {d : Nat} {M L : zM} {Q : Int → zW → Prop} {x1 : Int} 
    (h : zEv d m_sh_row [zR 7, zI x1] (SH, M, L) (fun x w => zEx (d + 1) m_lt_tooLongToTurn zb0 Q 8 ([zR 0, zI x1], [zR x.toNat], w))) :
    zEx (d + 1) m_lt_tooLongToTurn zb0 Q 0 ([zR 0, zI x1], [], SH, M, L) := zEx_run [8, 11] 2 (by decide) (h)
set_option maxRecDepth 20000 in
theorem g_lt_tooLongToTurn_8 {d : Nat} {M L : zM} {Q : Int → zW → Prop} {x1 : Int} {sr0 : Nat} (hsr0 : zRow sr0)
    (h : zEv d m_ro_size [zR sr0] (SH, M, L) (fun x w => zEx (d + 1) m_lt_tooLongToTurn zb0 Q 11 ([zR 0, zI x1], [zI x], w))) :
    zEx (d + 1) m_lt_tooLongToTurn zb0 Q 8 ([zR 0, zI x1], [zR sr0], SH, M, L) := zEx_run [8, 11] 2 (by decide) (zkq_i hsr0.1 (h))
set_option maxRecDepth 20000 in
theorem g_lt_tooLongToTurn_11 {d : Nat} {M L : zM} {Q : Int → zW → Prop} {x1 sx0 : Int} 
    (h : if 7 < sx0 then Q 1 (SH, M, L) else Q 0 (SH, M, L)) :
    zEx (d + 1) m_lt_tooLongToTurn zb0 Q 11 ([zR 0, zI x1], [zI sx0], SH, M, L) := zEx_run [8, 11] 3 (by decide) (h)
set_option maxRecDepth 20000 in
theorem g_lt_noLetter_0 {d : Nat} {M L : zM} {Q : Int → zW → Prop} {x0 : Int} 
    (h : if x0 < 0 then Q 1 (SH, M, L) else if x0 < 6 then Q 0 (SH, M, L) else Q 1 (SH, M, L)) :
    zEx (d + 1) m_lt_noLetter zb0 Q 0 ([zI x0], [], SH, M, L) := zEx_run [] 3 (by decide) (h)
set_option maxRecDepth 20000 in
theorem g_lt_notTwoLetters_0 {d : Nat} {M L : zM} {Q : Int → zW → Prop} {x0 x1 : Int} 
    (h : zEv d m_lt_noLetter [zI x0] (SH, M, L) (fun x w => zEx (d + 1) m_lt_notTwoLetters zb0 Q 4 ([zI x0, zI x1], [zI x], w))) :
    zEx (d + 1) m_lt_notTwoLetters zb0 Q 0 ([zI x0, zI x1], [], SH, M, L) := zEx_run [4, 11] 2 (by decide) (h)
set_option maxRecDepth 20000 in
theorem g_lt_notTwoLetters_4 {d : Nat} {M L : zM} {Q : Int → zW → Prop} {x0 x1 sx0 : Int} 
    (h : if sx0 = 0 then zEv d m_lt_noLetter [zI x1] (SH, M, L) (fun x w => zEx (d + 1) m_lt_notTwoLetters zb0 Q 11 ([zI x0, zI x1], [zI x], w)) else Q 1 (SH, M, L)) :
    zEx (d + 1) m_lt_notTwoLetters zb0 Q 4 ([zI x0, zI x1], [zI sx0], SH, M, L) := zEx_run [4, 11] 3 (by decide) (h)
set_option maxRecDepth 20000 in
theorem g_lt_notTwoLetters_11 {d : Nat} {M L : zM} {Q : Int → zW → Prop} {x0 x1 sx0 : Int} 
    (h : if sx0 = 0 then if x0 = x1 then Q 1 (SH, M, L) else Q 0 (SH, M, L) else Q 1 (SH, M, L)) :
    zEx (d + 1) m_lt_notTwoLetters zb0 Q 11 ([zI x0, zI x1], [zI sx0], SH, M, L) := zEx_run [4, 11] 3 (by decide) (h)
set_option maxRecDepth 20000 in
theorem g_lt_noList_0 {d : Nat} {M L : zM} {Q : Int → zW → Prop} {x0 : Int} 
    (h : if x0 < 0 then Q 1 (SH, M, L) else if x0 < 3 then Q 0 (SH, M, L) else Q 1 (SH, M, L)) :
    zEx (d + 1) m_lt_noList zb0 Q 0 ([zI x0], [], SH, M, L) := zEx_run [] 3 (by decide) (h)
set_option maxRecDepth 20000 in
theorem g_lt_noSuch_0 {d : Nat} {M L : zM} {Q : Int → zW → Prop} {x0 : Int} 
    (h : if x0 = 0 then Q 0 (SH, M, L) else if x0 = 1 then Q 0 (SH, M, L) else Q 1 (SH, M, L)) :
    zEx (d + 1) m_lt_noSuch zb0 Q 0 ([zI x0], [], SH, M, L) := zEx_run [] 3 (by decide) (h)
set_option maxRecDepth 20000 in
theorem g_lt_answer_0 {d : Nat} {M L : zM} {Q : Int → zW → Prop} {x0 : Int} 
    (h : if x0 = 0 then Q 0 (SH, M, L) else Q 1 (SH, M, L)) :
    zEx (d + 1) m_lt_answer zb0 Q 0 ([zI x0], [], SH, M, L) := zEx_run [] 3 (by decide) (h)
set_option maxRecDepth 20000 in
theorem g_lt_sizeOrCell_0 {d : Nat} {M L : zM} {Q : Int → zW → Prop} {r0 : Nat} {x1 : Int} (hr0 : zRow r0)
    (h : if x1 = (-1) then zEv d m_ro_size [zR r0] (SH, M, L) (fun x w => zEx (d + 1) m_lt_sizeOrCell zb0 Q 9 ([zR r0, zI x1], [zI x], w)) else zEv d m_ro_get [zR r0, zI x1] (SH, M, L) (fun x w => zEx (d + 1) m_lt_sizeOrCell zb0 Q 17 ([zR r0, zI x1], [zI x], w))) :
    zEx (d + 1) m_lt_sizeOrCell zb0 Q 0 ([zR r0, zI x1], [], SH, M, L) := zEx_run [9, 17] 2 (by decide) (zit (c := x1 = (-1)) h (fun h => zkq_i hr0.1 (h)) (fun h => zkq_i hr0.1 (h)))
set_option maxRecDepth 20000 in
theorem g_lt_sizeOrCell_9 {d : Nat} {M L : zM} {Q : Int → zW → Prop} {r0 : Nat} {x1 sx0 : Int} (hr0 : zRow r0)
    (h : zEx (d + 1) m_lt_sizeOrCell zb0 Q 17 ([zR r0, zI x1], [zI sx0], SH, M, L)) :
    zEx (d + 1) m_lt_sizeOrCell zb0 Q 9 ([zR r0, zI x1], [zI sx0], SH, M, L) := zEx_run [9, 17] 2 (by decide) (h)
set_option maxRecDepth 20000 in
theorem g_lt_sizeOrCell_17 {d : Nat} {M L : zM} {Q : Int → zW → Prop} {r0 : Nat} {x1 sx0 : Int} (hr0 : zRow r0)
    (h : Q sx0 (SH, M, L)) :
    zEx (d + 1) m_lt_sizeOrCell zb0 Q 17 ([zR r0, zI x1], [zI sx0], SH, M, L) := zEx_run [9, 17] 2 (by decide) (h)
set_option maxRecDepth 20000 in
theorem g_lt_commonDivisor_0 {d : Nat} {M L : zM} {Q : Int → zW → Prop} {x0 x1 : Int} 
    (h : zEx (d + 1) m_lt_commonDivisor zb0 Q 4 ([zI x0, zI x1, zI 1, zI 2], [], SH, M, L)) :
    zEx (d + 1) m_lt_commonDivisor zb0 Q 0 ([zI x0, zI x1, zN, zN], [], SH, M, L) := zEx_run [4] 2 (by decide) (h)
set_option maxRecDepth 20000 in
theorem g_lt_commonDivisor_4 {d : Nat} {M L : zM} {Q : Int → zW → Prop} {x0 x1 x2 x3 : Int} 
    (h : if x0 < x3 then Q x2 (SH, M, L) else if x1 < x3 then Q x2 (SH, M, L) else zck (x3 ≠ 0) (if zrem x0 x3 = 0 then zck (x3 ≠ 0) (if zrem x1 x3 = 0 then zEx (d + 1) m_lt_commonDivisor zb0 Q 4 ([zI x0, zI x1, zI x3, zI (zwr (x3 + 1))], [], SH, M, L) else zEx (d + 1) m_lt_commonDivisor zb0 Q 4 ([zI x0, zI x1, zI x2, zI (zwr (x3 + 1))], [], SH, M, L)) else zEx (d + 1) m_lt_commonDivisor zb0 Q 4 ([zI x0, zI x1, zI x2, zI (zwr (x3 + 1))], [], SH, M, L))) :
    zEx (d + 1) m_lt_commonDivisor zb0 Q 4 ([zI x0, zI x1, zI x2, zI x3], [], SH, M, L) := zEx_run [4] 3 (by decide) (h)
set_option maxRecDepth 20000 in
theorem g_mo_isIn_0 {d : Nat} {M L : zM} {Q : Int → zW → Prop} {x0 x1 x2 : Int} 
    (h : if x0 < x1 then Q 0 (SH, M, L) else if x2 < x0 then Q 0 (SH, M, L) else Q 1 (SH, M, L)) :
    zEx (d + 1) m_mo_isIn zb0 Q 0 ([zI x0, zI x1, zI x2], [], SH, M, L) := zEx_run [] 3 (by decide) (h)
set_option maxRecDepth 20000 in
theorem g_mo_no_0 {d : Nat} {M L : zM} {Q : Int → zW → Prop} {x1 : Int} 
    (h : zck (0 ≤ zwr (-x1) ∧ zwr (-x1) < 7) (zck (0 ≤ zwr (-x1) ∧ zwr (-x1) < 7) (Q x1 (SH, (zmu M 117 (Int.toNat (zwr (-x1))) (zwr ((M 117 (Int.toNat (zwr (-x1)))) + 1))), L)))) :
    zEx (d + 1) m_mo_no zb0 Q 0 ([zR 112, zI x1], [], SH, M, L) := zEx_run [] 2 (by decide) (h)
set_option maxRecDepth 20000 in
theorem g_mo_noLong_0 {d : Nat} {M L : zM} {Q : Int → zW → Prop} {x1 : Int} 
    (h : zck (0 ≤ zwr (-x1) ∧ zwr (-x1) < 7) (zck (0 ≤ zwr (-x1) ∧ zwr (-x1) < 7) (Q (zwl (4000000000000000000 - x1)) (SH, (zmu M 117 (Int.toNat (zwr (-x1))) (zwr ((M 117 (Int.toNat (zwr (-x1)))) + 1))), L)))) :
    zEx (d + 1) m_mo_noLong zb0 Q 0 ([zR 112, zI x1], [], SH, M, L) := zEx_run [] 2 (by decide) (h)
set_option maxRecDepth 20000 in
theorem g_mo_isLetter_0 {d : Nat} {M L : zM} {Q : Int → zW → Prop} {x0 : Int} 
    (h : zEv d m_mo_isIn [zI x0, zI 0, zI 5] (SH, M, L) (fun x w => zEx (d + 1) m_mo_isLetter zb0 Q 6 ([zI x0], [zI x], w))) :
    zEx (d + 1) m_mo_isLetter zb0 Q 0 ([zI x0], [], SH, M, L) := zEx_run [6] 2 (by decide) (h)
set_option maxRecDepth 20000 in
theorem g_mo_isLetter_6 {d : Nat} {M L : zM} {Q : Int → zW → Prop} {x0 sx0 : Int} 
    (h : zbl sx0 (fun b1 => Q b1 (SH, M, L))) :
    zEx (d + 1) m_mo_isLetter zb0 Q 6 ([zI x0], [zI sx0], SH, M, L) := zEx_run [6] 2 (by decide) (h)
set_option maxRecDepth 20000 in
theorem g_mo_isWord_0 {d : Nat} {M L : zM} {Q : Int → zW → Prop} {x1 : Int} 
    (h : zEv d m_mo_isIn [zI x1, zI 0, zI (zwr ((M 112 2) - 1))] (SH, M, L) (fun x w => zEx (d + 1) m_mo_isWord zb0 Q 11 ([zR 112, zI x1], [zI x], w))) :
    zEx (d + 1) m_mo_isWord zb0 Q 0 ([zR 112, zI x1], [], SH, M, L) := zEx_run [11] 2 (by decide) (h)
set_option maxRecDepth 20000 in
theorem g_mo_isWord_11 {d : Nat} {M L : zM} {Q : Int → zW → Prop} {x1 sx0 : Int} 
    (h : zbl sx0 (fun b1 => Q b1 (SH, M, L))) :
    zEx (d + 1) m_mo_isWord zb0 Q 11 ([zR 112, zI x1], [zI sx0], SH, M, L) := zEx_run [11] 2 (by decide) (h)
set_option maxRecDepth 20000 in
theorem g_mo_passes__0 {d : Nat} {M L : zM} {Q : Int → zW → Prop} {x1 x2 : Int} 
    (h : zck (0 ≤ x1 ∧ x1 < 6) (if zand (zshr (M 113 (Int.toNat x1)) x2) 1 = 1 then Q 1 (SH, M, L) else Q 0 (SH, M, L))) :
    zEx (d + 1) m_mo_passes_ zb0 Q 0 ([zR 112, zI x1, zI x2], [], SH, M, L) := zEx_run [] 3 (by decide) (h)
set_option maxRecDepth 20000 in
theorem g_mo_letter_0 {d : Nat} {M L : zM} {Q : Int → zW → Prop} {x1 : Int} 
    (h : if x1 < 0 then zEv d m_mo_no [zR 112, zI (-4)] (SH, M, L) (fun x w => zEx (d + 1) m_mo_letter zb0 Q 10 ([zR 112, zI x1], [zI x], w)) else if 255 < x1 then zEv d m_mo_no [zR 112, zI (-6)] (SH, M, L) (fun x w => zEx (d + 1) m_mo_letter zb0 Q 33 ([zR 112, zI x1], [zI x], w)) else if M 112 7 = 72 then zEv d m_mo_no [zR 112, zI (-6)] (SH, M, L) (fun x w => zEx (d + 1) m_mo_letter zb0 Q 33 ([zR 112, zI x1], [zI x], w)) else zck (0 ≤ M 112 7 ∧ M 112 7 < 72) (Q ((zmu (zmu M 118 (Int.toNat (M 112 7)) x1) 112 7 (zwr (((zmu M 118 (Int.toNat (M 112 7)) x1) 112 7) + 1))) 112 7) (SH, (zmu (zmu M 118 (Int.toNat (M 112 7)) x1) 112 7 (zwr (((zmu M 118 (Int.toNat (M 112 7)) x1) 112 7) + 1))), L))) :
    zEx (d + 1) m_mo_letter zb0 Q 0 ([zR 112, zI x1], [], SH, M, L) := zEx_run [10, 33] 3 (by decide) (h)
set_option maxRecDepth 20000 in
theorem g_mo_letter_10 {d : Nat} {M L : zM} {Q : Int → zW → Prop} {x1 sx0 : Int} 
    (h : Q sx0 (SH, M, L)) :
    zEx (d + 1) m_mo_letter zb0 Q 10 ([zR 112, zI x1], [zI sx0], SH, M, L) := zEx_run [10, 33] 2 (by decide) (h)
set_option maxRecDepth 20000 in
theorem g_mo_letter_33 {d : Nat} {M L : zM} {Q : Int → zW → Prop} {x1 sx0 : Int} 
    (h : Q sx0 (SH, M, L)) :
    zEx (d + 1) m_mo_letter zb0 Q 33 ([zR 112, zI x1], [zI sx0], SH, M, L) := zEx_run [10, 33] 2 (by decide) (h)
set_option maxRecDepth 20000 in
theorem g_mo_remembers_0 {d : Nat} {M L : zM} {Q : Int → zW → Prop}  
    (h : if M 112 8 = 8 then zEx (d + 1) m_mo_remembers zb0 Q 11 ([zR 112, zI 0], [], SH, M, L) else zEx (d + 1) m_mo_remembers zb0 Q 50 ([zR 112, zI 0], [], SH, M, L)) :
    zEx (d + 1) m_mo_remembers zb0 Q 0 ([zR 112, zN], [], SH, M, L) := zEx_run [11, 50] 3 (by decide) (h)
set_option maxRecDepth 20000 in
theorem g_mo_remembers_11 {d : Nat} {M L : zM} {Q : Int → zW → Prop} {x1 : Int} 
    (h : if x1 < 84 then zck (0 ≤ zwr (x1 + 12) ∧ zwr (x1 + 12) < 96) (zck (0 ≤ x1 ∧ x1 < 96) (zEx (d + 1) m_mo_remembers zb0 Q 11 ([zR 112, zI (zwr (x1 + 1))], [], SH, (zmu M 119 (Int.toNat x1) (M 119 (Int.toNat (zwr (x1 + 12))))), L))) else zEx (d + 1) m_mo_remembers zb0 Q 50 ([zR 112, zI 0], [], SH, (zmu M 112 8 (zwr ((M 112 8) - 1))), L)) :
    zEx (d + 1) m_mo_remembers zb0 Q 11 ([zR 112, zI x1], [], SH, M, L) := zEx_run [11, 50] 4 (by decide) (h)
set_option maxRecDepth 20000 in
theorem g_mo_remembers_50 {d : Nat} {M L : zM} {Q : Int → zW → Prop} {x1 : Int} 
    (h : if x1 < 6 then zck (0 ≤ x1 ∧ x1 < 6) (zck (0 ≤ zwr ((zwr (12 * (M 112 8))) + x1) ∧ zwr ((zwr (12 * (M 112 8))) + x1) < 96) (zck (0 ≤ x1 ∧ x1 < 6) (zck (0 ≤ zwr ((zwr ((zwr (12 * ((zmu M 119 (Int.toNat (zwr ((zwr (12 * (M 112 8))) + x1))) (M 113 (Int.toNat x1))) 112 8))) + 6)) + x1) ∧ zwr ((zwr ((zwr (12 * ((zmu M 119 (Int.toNat (zwr ((zwr (12 * (M 112 8))) + x1))) (M 113 (Int.toNat x1))) 112 8))) + 6)) + x1) < 96) (zEx (d + 1) m_mo_remembers zb0 Q 50 ([zR 112, zI (zwr (x1 + 1))], [], SH, (zmu (zmu M 119 (Int.toNat (zwr ((zwr (12 * (M 112 8))) + x1))) (M 113 (Int.toNat x1))) 119 (Int.toNat (zwr ((zwr ((zwr (12 * ((zmu M 119 (Int.toNat (zwr ((zwr (12 * (M 112 8))) + x1))) (M 113 (Int.toNat x1))) 112 8))) + 6)) + x1))) ((zmu M 119 (Int.toNat (zwr ((zwr (12 * (M 112 8))) + x1))) (M 113 (Int.toNat x1))) 114 (Int.toNat x1))), L))))) else Q 0 (SH, (zmu M 112 8 (zwr ((M 112 8) + 1))), L)) :
    zEx (d + 1) m_mo_remembers zb0 Q 50 ([zR 112, zI x1], [], SH, M, L) := zEx_run [11, 50] 2 (by decide) (h)
set_option maxRecDepth 20000 in
theorem g_mo_turns_0 {d : Nat} {M L : zM} {Q : Int → zW → Prop} {x1 x2 : Int} 
    (h : zck (0 ≤ x1 ∧ x1 < 6) (zck (0 ≤ x1 ∧ x1 < 6) (zck (0 ≤ x2 ∧ x2 < 6) (zck (0 ≤ x2 ∧ x2 < 6) (Q 0 (SH, (zmu (zmu M 113 (Int.toNat x1) (zxor (M 113 (Int.toNat x1)) (zshl 1 x2))) 113 (Int.toNat x2) (zxor ((zmu M 113 (Int.toNat x1) (zxor (M 113 (Int.toNat x1)) (zshl 1 x2))) 113 (Int.toNat x2)) (zshl 1 x1))), L)))))) :
    zEx (d + 1) m_mo_turns zb0 Q 0 ([zR 112, zI x1, zI x2], [], SH, M, L) := zEx_run [] 2 (by decide) (h)
set_option maxRecDepth 20000 in
theorem g_mo_swaps_0 {d : Nat} {M L : zM} {Q : Int → zW → Prop} {x1 x2 : Int} 
    (h : zck (0 ≤ x1 ∧ x1 < 6) (zck (0 ≤ x2 ∧ x2 < 6) (zck (0 ≤ x1 ∧ x1 < 6) (zck (0 ≤ x2 ∧ x2 < 6) (Q 0 (SH, (zmu (zmu M 114 (Int.toNat x1) (M 114 (Int.toNat x2))) 114 (Int.toNat x2) (M 114 (Int.toNat x1))), L)))))) :
    zEx (d + 1) m_mo_swaps zb0 Q 0 ([zR 112, zI x1, zI x2, zN], [], SH, M, L) := zEx_run [] 2 (by decide) (h)
set_option maxRecDepth 20000 in
theorem g_mo_areTwo_0 {d : Nat} {M L : zM} {Q : Int → zW → Prop} {x0 x1 : Int} 
    (h : zEv d m_mo_isLetter [zI x0] (SH, M, L) (fun x w => zEx (d + 1) m_mo_areTwo zb0 Q 4 ([zI x0, zI x1], [zI x], w))) :
    zEx (d + 1) m_mo_areTwo zb0 Q 0 ([zI x0, zI x1], [], SH, M, L) := zEx_run [4, 11] 2 (by decide) (h)
set_option maxRecDepth 20000 in
theorem g_mo_areTwo_4 {d : Nat} {M L : zM} {Q : Int → zW → Prop} {x0 x1 sx0 : Int} 
    (h : if sx0 = 0 then Q 0 (SH, M, L) else zEv d m_mo_isLetter [zI x1] (SH, M, L) (fun x w => zEx (d + 1) m_mo_areTwo zb0 Q 11 ([zI x0, zI x1], [zI x], w))) :
    zEx (d + 1) m_mo_areTwo zb0 Q 4 ([zI x0, zI x1], [zI sx0], SH, M, L) := zEx_run [4, 11] 3 (by decide) (h)
set_option maxRecDepth 20000 in
theorem g_mo_areTwo_11 {d : Nat} {M L : zM} {Q : Int → zW → Prop} {x0 x1 sx0 : Int} 
    (h : if sx0 = 0 then Q 0 (SH, M, L) else if x0 = x1 then Q 0 (SH, M, L) else Q 1 (SH, M, L)) :
    zEx (d + 1) m_mo_areTwo zb0 Q 11 ([zI x0, zI x1], [zI sx0], SH, M, L) := zEx_run [4, 11] 3 (by decide) (h)
set_option maxRecDepth 20000 in
theorem g_mo_passes_0 {d : Nat} {M L : zM} {Q : Int → zW → Prop} {x1 x2 : Int} 
    (h : zEv d m_mo_areTwo [zI x1, zI x2] (SH, M, L) (fun x w => zEx (d + 1) m_mo_passes zb0 Q 5 ([zR 112, zI x1, zI x2], [zI x], w))) :
    zEx (d + 1) m_mo_passes zb0 Q 0 ([zR 112, zI x1, zI x2], [], SH, M, L) := zEx_run [5, 13, 18, 24, 30] 2 (by decide) (h)
set_option maxRecDepth 20000 in
theorem g_mo_passes_5 {d : Nat} {M L : zM} {Q : Int → zW → Prop} {x1 x2 sx0 : Int} 
    (h : if sx0 = 0 then zEv d m_mo_no [zR 112, zI (-1)] (SH, M, L) (fun x w => zEx (d + 1) m_mo_passes zb0 Q 13 ([zR 112, zI x1, zI x2], [zI x], w)) else zEv d m_mo_remembers [zR 112] (SH, M, L) (fun _ w => zEx (d + 1) m_mo_passes zb0 Q 18 ([zR 112, zI x1, zI x2], [], w))) :
    zEx (d + 1) m_mo_passes zb0 Q 5 ([zR 112, zI x1, zI x2], [zI sx0], SH, M, L) := zEx_run [5, 13, 18, 24, 30] 2 (by decide) (h)
set_option maxRecDepth 20000 in
theorem g_mo_passes_13 {d : Nat} {M L : zM} {Q : Int → zW → Prop} {x1 x2 sx0 : Int} 
    (h : Q sx0 (SH, M, L)) :
    zEx (d + 1) m_mo_passes zb0 Q 13 ([zR 112, zI x1, zI x2], [zI sx0], SH, M, L) := zEx_run [5, 13, 18, 24, 30] 2 (by decide) (h)
set_option maxRecDepth 20000 in
theorem g_mo_passes_18 {d : Nat} {M L : zM} {Q : Int → zW → Prop} {x1 x2 : Int} 
    (h : zEv d m_mo_turns [zR 112, zI x1, zI x2] (SH, M, L) (fun _ w => zEx (d + 1) m_mo_passes zb0 Q 24 ([zR 112, zI x1, zI x2], [], w))) :
    zEx (d + 1) m_mo_passes zb0 Q 18 ([zR 112, zI x1, zI x2], [], SH, M, L) := zEx_run [5, 13, 18, 24, 30] 2 (by decide) (h)
set_option maxRecDepth 20000 in
theorem g_mo_passes_24 {d : Nat} {M L : zM} {Q : Int → zW → Prop} {x1 x2 : Int} 
    (h : zEv d m_mo_passes_ [zR 112, zI x1, zI x2] (SH, M, L) (fun x w => zEx (d + 1) m_mo_passes zb0 Q 30 ([zR 112, zI x1, zI x2], [zI x], w))) :
    zEx (d + 1) m_mo_passes zb0 Q 24 ([zR 112, zI x1, zI x2], [], SH, M, L) := zEx_run [5, 13, 18, 24, 30] 2 (by decide) (h)
set_option maxRecDepth 20000 in
theorem g_mo_passes_30 {d : Nat} {M L : zM} {Q : Int → zW → Prop} {x1 x2 sx0 : Int} 
    (h : if sx0 = 0 then Q 0 (SH, M, L) else Q 1 (SH, M, L)) :
    zEx (d + 1) m_mo_passes zb0 Q 30 ([zR 112, zI x1, zI x2], [zI sx0], SH, M, L) := zEx_run [5, 13, 18, 24, 30] 3 (by decide) (h)
set_option maxRecDepth 20000 in
theorem g_mo_ranks_0 {d : Nat} {M L : zM} {Q : Int → zW → Prop} {x1 x2 : Int} 
    (h : zEv d m_mo_areTwo [zI x1, zI x2] (SH, M, L) (fun x w => zEx (d + 1) m_mo_ranks zb0 Q 5 ([zR 112, zI x1, zI x2], [zI x], w))) :
    zEx (d + 1) m_mo_ranks zb0 Q 0 ([zR 112, zI x1, zI x2], [], SH, M, L) := zEx_run [5, 13, 18, 24] 2 (by decide) (h)
set_option maxRecDepth 20000 in
theorem g_mo_ranks_5 {d : Nat} {M L : zM} {Q : Int → zW → Prop} {x1 x2 sx0 : Int} 
    (h : if sx0 = 0 then zEv d m_mo_no [zR 112, zI (-1)] (SH, M, L) (fun x w => zEx (d + 1) m_mo_ranks zb0 Q 13 ([zR 112, zI x1, zI x2], [zI x], w)) else zEv d m_mo_remembers [zR 112] (SH, M, L) (fun _ w => zEx (d + 1) m_mo_ranks zb0 Q 18 ([zR 112, zI x1, zI x2], [], w))) :
    zEx (d + 1) m_mo_ranks zb0 Q 5 ([zR 112, zI x1, zI x2], [zI sx0], SH, M, L) := zEx_run [5, 13, 18, 24] 2 (by decide) (h)
set_option maxRecDepth 20000 in
theorem g_mo_ranks_13 {d : Nat} {M L : zM} {Q : Int → zW → Prop} {x1 x2 sx0 : Int} 
    (h : Q sx0 (SH, M, L)) :
    zEx (d + 1) m_mo_ranks zb0 Q 13 ([zR 112, zI x1, zI x2], [zI sx0], SH, M, L) := zEx_run [5, 13, 18, 24] 2 (by decide) (h)
set_option maxRecDepth 20000 in
theorem g_mo_ranks_18 {d : Nat} {M L : zM} {Q : Int → zW → Prop} {x1 x2 : Int} 
    (h : zEv d m_mo_swaps [zR 112, zI x1, zI x2] (SH, M, L) (fun _ w => zEx (d + 1) m_mo_ranks zb0 Q 24 ([zR 112, zI x1, zI x2], [], w))) :
    zEx (d + 1) m_mo_ranks zb0 Q 18 ([zR 112, zI x1, zI x2], [], SH, M, L) := zEx_run [5, 13, 18, 24] 2 (by decide) (h)
set_option maxRecDepth 20000 in
theorem g_mo_ranks_24 {d : Nat} {M L : zM} {Q : Int → zW → Prop} {x1 x2 : Int} 
    (h : zck (0 ≤ x1 ∧ x1 < 6) (Q (M 114 (Int.toNat x1)) (SH, M, L))) :
    zEx (d + 1) m_mo_ranks zb0 Q 24 ([zR 112, zI x1, zI x2], [], SH, M, L) := zEx_run [5, 13, 18, 24] 2 (by decide) (h)
set_option maxRecDepth 20000 in
theorem g_mo_of_0 {d : Nat} {M L : zM} {Q : Int → zW → Prop} {x1 x2 : Int} 
    (h : zEv d m_mo_isLetter [zI x1] (SH, M, L) (fun x w => zEx (d + 1) m_mo_of zb0 Q 4 ([zR 112, zI x1, zI x2], [zI x], w))) :
    zEx (d + 1) m_mo_of zb0 Q 0 ([zR 112, zI x1, zI x2], [], SH, M, L) := zEx_run [4, 12, 19, 28] 2 (by decide) (h)
set_option maxRecDepth 20000 in
theorem g_mo_of_4 {d : Nat} {M L : zM} {Q : Int → zW → Prop} {x1 x2 sx0 : Int} 
    (h : if sx0 = 0 then zEv d m_mo_no [zR 112, zI (-1)] (SH, M, L) (fun x w => zEx (d + 1) m_mo_of zb0 Q 12 ([zR 112, zI x1, zI x2], [zI x], w)) else zEv d m_mo_isIn [zI x2, zI 0, zI 1] (SH, M, L) (fun x w => zEx (d + 1) m_mo_of zb0 Q 19 ([zR 112, zI x1, zI x2], [zI x], w))) :
    zEx (d + 1) m_mo_of zb0 Q 4 ([zR 112, zI x1, zI x2], [zI sx0], SH, M, L) := zEx_run [4, 12, 19, 28] 2 (by decide) (h)
set_option maxRecDepth 20000 in
theorem g_mo_of_12 {d : Nat} {M L : zM} {Q : Int → zW → Prop} {x1 x2 sx0 : Int} 
    (h : Q sx0 (SH, M, L)) :
    zEx (d + 1) m_mo_of zb0 Q 12 ([zR 112, zI x1, zI x2], [zI sx0], SH, M, L) := zEx_run [4, 12, 19, 28] 2 (by decide) (h)
set_option maxRecDepth 20000 in
theorem g_mo_of_19 {d : Nat} {M L : zM} {Q : Int → zW → Prop} {x1 x2 sx0 : Int} 
    (h : if sx0 = 0 then zEv d m_mo_no [zR 112, zI (-2)] (SH, M, L) (fun x w => zEx (d + 1) m_mo_of zb0 Q 28 ([zR 112, zI x1, zI x2], [zI x], w)) else if x2 = 0 then zck (0 ≤ x1 ∧ x1 < 6) (Q (M 114 (Int.toNat x1)) (SH, M, L)) else zck (0 ≤ x1 ∧ x1 < 6) (Q (M 113 (Int.toNat x1)) (SH, M, L))) :
    zEx (d + 1) m_mo_of zb0 Q 19 ([zR 112, zI x1, zI x2], [zI sx0], SH, M, L) := zEx_run [4, 12, 19, 28] 4 (by decide) (h)
set_option maxRecDepth 20000 in
theorem g_mo_of_28 {d : Nat} {M L : zM} {Q : Int → zW → Prop} {x1 x2 sx0 : Int} 
    (h : Q sx0 (SH, M, L)) :
    zEx (d + 1) m_mo_of zb0 Q 28 ([zR 112, zI x1, zI x2], [zI sx0], SH, M, L) := zEx_run [4, 12, 19, 28] 2 (by decide) (h)
set_option maxRecDepth 20000 in
theorem g_mo_here_0 {d : Nat} {M L : zM} {Q : Int → zW → Prop}  
    (h : if M 112 18 < M 112 7 then zck (0 ≤ M 112 18 ∧ M 112 18 < 72) (Q (M 118 (Int.toNat (M 112 18))) (SH, M, L)) else Q (-9) (SH, M, L)) :
    zEx (d + 1) m_mo_here zb0 Q 0 ([zR 112], [], SH, M, L) := zEx_run [] 3 (by decide) (h)
set_option maxRecDepth 20000 in
theorem g_mo_fails_0 {d : Nat} {M L : zM} {Q : Int → zW → Prop}  
    (h : if M 112 19 = (-9) then Q 0 (SH, (zmu M 112 19 (M 112 18)), L) else Q 0 (SH, M, L)) :
    zEx (d + 1) m_mo_fails zb0 Q 0 ([zR 112], [], SH, M, L) := zEx_run [] 2 (by decide) (h)
set_option maxRecDepth 20000 in
theorem g_mo_isSign_0 {d : Nat} {M L : zM} {Q : Int → zW → Prop}  
    (h : zEv d m_mo_here [zR 112] (SH, M, L) (fun x w => zEx (d + 1) m_mo_isSign zb0 Q 4 ([zR 112], [zI x], w))) :
    zEx (d + 1) m_mo_isSign zb0 Q 0 ([zR 112], [], SH, M, L) := zEx_run [4, 11] 2 (by decide) (h)
set_option maxRecDepth 20000 in
theorem g_mo_isSign_4 {d : Nat} {M L : zM} {Q : Int → zW → Prop} {sx0 : Int} 
    (h : zEv d m_mo_isIn [zI sx0, zI 97, zI 102] (SH, M, L) (fun x w => zEx (d + 1) m_mo_isSign zb0 Q 11 ([zR 112], [zI x], w))) :
    zEx (d + 1) m_mo_isSign zb0 Q 4 ([zR 112], [zI sx0], SH, M, L) := zEx_run [4, 11] 2 (by decide) (h)
set_option maxRecDepth 20000 in
theorem g_mo_isSign_11 {d : Nat} {M L : zM} {Q : Int → zW → Prop} {sx0 : Int} 
    (h : zbl sx0 (fun b1 => Q b1 (SH, M, L))) :
    zEx (d + 1) m_mo_isSign zb0 Q 11 ([zR 112], [zI sx0], SH, M, L) := zEx_run [4, 11] 2 (by decide) (h)
set_option maxRecDepth 20000 in
theorem g_mo_rule_0 {d : Nat} {M L : zM} {Q : Int → zW → Prop} {x1 : Int} 
    (h : zEv d m_mo_here [zR 112] (SH, M, L) (fun x w => zEx (d + 1) m_mo_rule zb0 Q 11 ([zR 112, zI x1, zN], [zI x, zI (zwr (3 * x1)), zR 126], w))) :
    zEx (d + 1) m_mo_rule zb0 Q 0 ([zR 112, zI x1, zN], [], SH, M, L) := zEx_run [11, 41, 59, 71, 91, 105] 2 (by decide) (h)
set_option maxRecDepth 20000 in
theorem g_mo_rule_11 {d : Nat} {M L : zM} {Q : Int → zW → Prop} {x1 sx0 sx1 : Int} 
    (h : if sx0 = 60 then zck (0 ≤ sx1 ∧ sx1 < 216) (zck (0 ≤ zwr (3 * x1) ∧ zwr (3 * x1) < 216) (zEx (d + 1) m_mo_rule zb0 Q 41 ([zR 112, zI x1, zI 1], [], SH, (zmu (zmu M 126 (Int.toNat sx1) 1) 112 18 (zwr (((zmu M 126 (Int.toNat sx1) 1) 112 18) + ((zmu M 126 (Int.toNat sx1) 1) 126 (Int.toNat (zwr (3 * x1))))))), L))) else zck (0 ≤ sx1 ∧ sx1 < 216) (zck (0 ≤ zwr (3 * x1) ∧ zwr (3 * x1) < 216) (zEx (d + 1) m_mo_rule zb0 Q 41 ([zR 112, zI x1, zI 1], [], SH, (zmu (zmu M 126 (Int.toNat sx1) 0) 112 18 (zwr (((zmu M 126 (Int.toNat sx1) 0) 112 18) + ((zmu M 126 (Int.toNat sx1) 0) 126 (Int.toNat (zwr (3 * x1))))))), L)))) :
    zEx (d + 1) m_mo_rule zb0 Q 11 ([zR 112, zI x1, zN], [zI sx0, zI sx1, zR 126], SH, M, L) := zEx_run [11, 41, 59, 71, 91, 105] 4 (by decide) (h)
set_option maxRecDepth 20000 in
theorem g_mo_rule_41 {d : Nat} {M L : zM} {Q : Int → zW → Prop} {x1 x2 : Int} 
    (h : if x2 < 3 then if M 112 19 = (-9) then zEv d m_mo_isSign [zR 112] (SH, M, L) (fun x w => zEx (d + 1) m_mo_rule zb0 Q 59 ([zR 112, zI x1, zI x2], [zI x], w)) else zEv d m_mo_fails [zR 112] (SH, M, L) (fun _ w => zEx (d + 1) m_mo_rule zb0 Q 91 ([zR 112, zI x1, zI x2], [], w)) else Q 0 (SH, M, L)) :
    zEx (d + 1) m_mo_rule zb0 Q 41 ([zR 112, zI x1, zI x2], [], SH, M, L) := zEx_run [11, 41, 59, 71, 91, 105] 2 (by decide) (h)
set_option maxRecDepth 20000 in
theorem g_mo_rule_59 {d : Nat} {M L : zM} {Q : Int → zW → Prop} {x1 x2 sx0 : Int} 
    (h : if sx0 = 0 then zEv d m_mo_fails [zR 112] (SH, M, L) (fun _ w => zEx (d + 1) m_mo_rule zb0 Q 91 ([zR 112, zI x1, zI x2], [], w)) else if x2 = 2 then zEv d m_mo_here [zR 112] (SH, M, L) (fun x w => zEx (d + 1) m_mo_rule zb0 Q 71 ([zR 112, zI x1, zI x2], [zI x], w)) else zEv d m_mo_here [zR 112] (SH, M, L) (fun x w => zEx (d + 1) m_mo_rule zb0 Q 105 ([zR 112, zI x1, zI x2], [zI x, zI (zwr ((zwr (3 * x1)) + x2)), zR 126], w))) :
    zEx (d + 1) m_mo_rule zb0 Q 59 ([zR 112, zI x1, zI x2], [zI sx0], SH, M, L) := zEx_run [11, 41, 59, 71, 91, 105] 2 (by decide) (h)
set_option maxRecDepth 20000 in
theorem g_mo_rule_71 {d : Nat} {M L : zM} {Q : Int → zW → Prop} {x1 x2 sx0 : Int} 
    (h : zck (0 ≤ zwr ((zwr (3 * x1)) + 1) ∧ zwr ((zwr (3 * x1)) + 1) < 216) (if zwr (sx0 - 97) = M 126 (Int.toNat (zwr ((zwr (3 * x1)) + 1))) then zEv d m_mo_fails [zR 112] (SH, M, L) (fun _ w => zEx (d + 1) m_mo_rule zb0 Q 91 ([zR 112, zI x1, zI x2], [], w)) else zEv d m_mo_here [zR 112] (SH, M, L) (fun x w => zEx (d + 1) m_mo_rule zb0 Q 105 ([zR 112, zI x1, zI x2], [zI x, zI (zwr ((zwr (3 * x1)) + x2)), zR 126], w)))) :
    zEx (d + 1) m_mo_rule zb0 Q 71 ([zR 112, zI x1, zI x2], [zI sx0], SH, M, L) := zEx_run [11, 41, 59, 71, 91, 105] 2 (by decide) (h)
set_option maxRecDepth 20000 in
theorem g_mo_rule_91 {d : Nat} {M L : zM} {Q : Int → zW → Prop} {x1 x2 : Int} 
    (h : Q 0 (SH, M, L)) :
    zEx (d + 1) m_mo_rule zb0 Q 91 ([zR 112, zI x1, zI x2], [], SH, M, L) := zEx_run [11, 41, 59, 71, 91, 105] 2 (by decide) (h)
set_option maxRecDepth 20000 in
theorem g_mo_rule_105 {d : Nat} {M L : zM} {Q : Int → zW → Prop} {x1 x2 sx0 sx1 : Int} 
    (h : zck (0 ≤ sx1 ∧ sx1 < 216) (zEx (d + 1) m_mo_rule zb0 Q 41 ([zR 112, zI x1, zI (zwr (x2 + 1))], [], SH, (zmu (zmu M 126 (Int.toNat sx1) (zwr (sx0 - 97))) 112 18 (zwr (((zmu M 126 (Int.toNat sx1) (zwr (sx0 - 97))) 112 18) + 1))), L))) :
    zEx (d + 1) m_mo_rule zb0 Q 105 ([zR 112, zI x1, zI x2], [zI sx0, zI sx1, zR 126], SH, M, L) := zEx_run [11, 41, 59, 71, 91, 105] 2 (by decide) (h)
