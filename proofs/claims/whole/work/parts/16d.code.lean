/-! stretches of code -/
set_option maxRecDepth 20000 in
theorem g_mo_judge_0 {d : Nat} {M L : zM} {Q : Int → zW → Prop} {x1 x2 : Int} 
    (h : zEv d m_mo_isList [zI x1] (SH, M, L) (fun x w => zEx (d + 1) m_mo_judge zb0 Q 4 ([zR 112, zI x1, zI x2, zN], [zI x], w))) :
    zEx (d + 1) m_mo_judge zb0 Q 0 ([zR 112, zI x1, zI x2, zN], [], SH, M, L) := zEx_run [4, 12, 20, 37] 2 (by decide) (h)
set_option maxRecDepth 20000 in
theorem g_mo_judge_4 {d : Nat} {M L : zM} {Q : Int → zW → Prop} {x1 x2 sx0 : Int} 
    (h : if sx0 = 0 then zEv d m_mo_no [zR 112, zI (-1)] (SH, M, L) (fun x w => zEx (d + 1) m_mo_judge zb0 Q 20 ([zR 112, zI x1, zI x2, zN], [zI x], w)) else zEv d m_mo_isWord [zR 112, zI x2] (SH, M, L) (fun x w => zEx (d + 1) m_mo_judge zb0 Q 12 ([zR 112, zI x1, zI x2, zN], [zI x], w))) :
    zEx (d + 1) m_mo_judge zb0 Q 4 ([zR 112, zI x1, zI x2, zN], [zI sx0], SH, M, L) := zEx_run [4, 12, 20, 37] 2 (by decide) (h)
set_option maxRecDepth 20000 in
theorem g_mo_judge_12 {d : Nat} {M L : zM} {Q : Int → zW → Prop} {x1 x2 sx0 : Int} 
    (h : if sx0 = 0 then zEv d m_mo_no [zR 112, zI (-1)] (SH, M, L) (fun x w => zEx (d + 1) m_mo_judge zb0 Q 20 ([zR 112, zI x1, zI x2, zN], [zI x], w)) else zck (0 ≤ x1 ∧ x1 < 3) (if M 124 (Int.toNat x1) = (-9) then Q (-11) (SH, M, L) else zEx (d + 1) m_mo_judge zb0 Q 37 ([zR 112, zI x1, zI x2, zI 0], [], SH, M, L))) :
    zEx (d + 1) m_mo_judge zb0 Q 12 ([zR 112, zI x1, zI x2, zN], [zI sx0], SH, M, L) := zEx_run [4, 12, 20, 37] 4 (by decide) (h)
set_option maxRecDepth 20000 in
theorem g_mo_judge_20 {d : Nat} {M L : zM} {Q : Int → zW → Prop} {x1 x2 sx0 : Int} 
    (h : Q sx0 (SH, M, L)) :
    zEx (d + 1) m_mo_judge zb0 Q 20 ([zR 112, zI x1, zI x2, zN], [zI sx0], SH, M, L) := zEx_run [4, 12, 20, 37] 2 (by decide) (h)
set_option maxRecDepth 20000 in
theorem g_mo_judge_37 {d : Nat} {M L : zM} {Q : Int → zW → Prop} {x1 x2 x3 : Int} 
    (h : zck (0 ≤ x1 ∧ x1 < 3) (if x3 < M 124 (Int.toNat x1) then zck (0 ≤ x2 ∧ x2 < 5) (if x3 < M 115 (Int.toNat x2) then zck (0 ≤ zwr ((zwr (40 * x1)) + x3) ∧ zwr ((zwr (40 * x1)) + x3) < 120) (zck (0 ≤ zwr ((zwr (14 * x2)) + x3) ∧ zwr ((zwr (14 * x2)) + x3) < 70) (if M 125 (Int.toNat (zwr ((zwr (40 * x1)) + x3))) = M 116 (Int.toNat (zwr ((zwr (14 * x2)) + x3))) then zEx (d + 1) m_mo_judge zb0 Q 37 ([zR 112, zI x1, zI x2, zI (zwr (x3 + 1))], [], SH, M, L) else Q x3 (SH, M, L))) else Q x3 (SH, M, L)) else Q (-9) (SH, M, L))) :
    zEx (d + 1) m_mo_judge zb0 Q 37 ([zR 112, zI x1, zI x2, zI x3], [], SH, M, L) := zEx_run [4, 12, 20, 37] 3 (by decide) (h)
set_option maxRecDepth 20000 in
theorem g_mo_undo_0 {d : Nat} {M L : zM} {Q : Int → zW → Prop}  
    (h : if M 112 8 = 0 then zEv d m_mo_no [zR 112, zI (-3)] (SH, M, L) (fun x w => zEx (d + 1) m_mo_undo zb0 Q 13 ([zR 112, zN], [zI x], w)) else zEx (d + 1) m_mo_undo zb0 Q 26 ([zR 112, zI 0], [], SH, (zmu M 112 8 (zwr ((M 112 8) - 1))), L)) :
    zEx (d + 1) m_mo_undo zb0 Q 0 ([zR 112, zN], [], SH, M, L) := zEx_run [13, 26] 3 (by decide) (h)
set_option maxRecDepth 20000 in
theorem g_mo_undo_13 {d : Nat} {M L : zM} {Q : Int → zW → Prop} {sx0 : Int} 
    (h : Q sx0 (SH, M, L)) :
    zEx (d + 1) m_mo_undo zb0 Q 13 ([zR 112, zN], [zI sx0], SH, M, L) := zEx_run [13, 26] 2 (by decide) (h)
set_option maxRecDepth 20000 in
theorem g_mo_undo_26 {d : Nat} {M L : zM} {Q : Int → zW → Prop} {x1 : Int} 
    (h : if x1 < 6 then zck (0 ≤ zwr ((zwr (12 * (M 112 8))) + x1) ∧ zwr ((zwr (12 * (M 112 8))) + x1) < 96) (zck (0 ≤ x1 ∧ x1 < 6) (zck (0 ≤ zwr ((zwr ((zwr (12 * ((zmu M 113 (Int.toNat x1) (M 119 (Int.toNat (zwr ((zwr (12 * (M 112 8))) + x1))))) 112 8))) + 6)) + x1) ∧ zwr ((zwr ((zwr (12 * ((zmu M 113 (Int.toNat x1) (M 119 (Int.toNat (zwr ((zwr (12 * (M 112 8))) + x1))))) 112 8))) + 6)) + x1) < 96) (zck (0 ≤ x1 ∧ x1 < 6) (zEx (d + 1) m_mo_undo zb0 Q 26 ([zR 112, zI (zwr (x1 + 1))], [], SH, (zmu (zmu M 113 (Int.toNat x1) (M 119 (Int.toNat (zwr ((zwr (12 * (M 112 8))) + x1))))) 114 (Int.toNat x1) ((zmu M 113 (Int.toNat x1) (M 119 (Int.toNat (zwr ((zwr (12 * (M 112 8))) + x1))))) 119 (Int.toNat (zwr ((zwr ((zwr (12 * ((zmu M 113 (Int.toNat x1) (M 119 (Int.toNat (zwr ((zwr (12 * (M 112 8))) + x1))))) 112 8))) + 6)) + x1))))), L))))) else Q (M 112 8) (SH, M, L)) :
    zEx (d + 1) m_mo_undo zb0 Q 26 ([zR 112, zI x1], [], SH, M, L) := zEx_run [13, 26] 2 (by decide) (h)
set_option maxRecDepth 20000 in
theorem g_mo_copies__0 {d : Nat} {M L : zM} {Q : Int → zW → Prop} {r0 r1 : Nat} (hr0 : zkd SH r0 = 20) (hr1 : zkd SH r1 = 20)
    (h : zEx (d + 1) m_mo_copies_ zb0 Q 2 ([zR r0, zR r1, zI 0], [], SH, M, L)) :
    zEx (d + 1) m_mo_copies_ zb0 Q 0 ([zR r0, zR r1, zN], [], SH, M, L) := zEx_run [2] 2 (by decide) (h)
set_option maxRecDepth 20000 in
theorem g_mo_copies__2 {d : Nat} {M L : zM} {Q : Int → zW → Prop} {r0 r1 : Nat} {x2 : Int} (hr0 : zkd SH r0 = 20) (hr1 : zkd SH r1 = 20)
    (h : if x2 < zln SH r1 then zck (0 ≤ x2 ∧ x2 < zln SH r0) (zck (0 ≤ x2 ∧ x2 < zln SH r1) (zEx (d + 1) m_mo_copies_ zb0 Q 2 ([zR r0, zR r1, zI (zwr (x2 + 1))], [], SH, (zmu M r1 (Int.toNat x2) (M r0 (Int.toNat x2))), L))) else Q 0 (SH, M, L)) :
    zEx (d + 1) m_mo_copies_ zb0 Q 2 ([zR r0, zR r1, zI x2], [], SH, M, L) := zEx_run [2] 2 (by decide) (zar hr1 (zit (c := x2 < zln SH r1) h (fun h => zixm hr0 h (fun h => zixm hr1 h (fun h => h))) (fun h => h)))
set_option maxRecDepth 20000 in
theorem g_mo_image_0 {d : Nat} {M L : zM} {Q : Int → zW → Prop}  
    (h : zEv d m_mo_copies_ [zR 113, zR 120] (SH, M, L) (fun _ w => zEx (d + 1) m_mo_image zb0 Q 11 ([zR 112], [], w))) :
    zEx (d + 1) m_mo_image zb0 Q 0 ([zR 112], [], SH, M, L) := zEx_run [11, 22, 33, 44] 2 (by decide) (h)
set_option maxRecDepth 20000 in
theorem g_mo_image_11 {d : Nat} {M L : zM} {Q : Int → zW → Prop}  
    (h : zEv d m_mo_copies_ [zR 114, zR 121] (SH, M, L) (fun _ w => zEx (d + 1) m_mo_image zb0 Q 22 ([zR 112], [], w))) :
    zEx (d + 1) m_mo_image zb0 Q 11 ([zR 112], [], SH, M, L) := zEx_run [11, 22, 33, 44] 2 (by decide) (h)
set_option maxRecDepth 20000 in
theorem g_mo_image_22 {d : Nat} {M L : zM} {Q : Int → zW → Prop}  
    (h : zEv d m_mo_copies_ [zR 115, zR 122] (SH, M, L) (fun _ w => zEx (d + 1) m_mo_image zb0 Q 33 ([zR 112], [], w))) :
    zEx (d + 1) m_mo_image zb0 Q 22 ([zR 112], [], SH, M, L) := zEx_run [11, 22, 33, 44] 2 (by decide) (h)
set_option maxRecDepth 20000 in
theorem g_mo_image_33 {d : Nat} {M L : zM} {Q : Int → zW → Prop}  
    (h : zEv d m_mo_copies_ [zR 116, zR 123] (SH, M, L) (fun _ w => zEx (d + 1) m_mo_image zb0 Q 44 ([zR 112], [], w))) :
    zEx (d + 1) m_mo_image zb0 Q 33 ([zR 112], [], SH, M, L) := zEx_run [11, 22, 33, 44] 2 (by decide) (h)
set_option maxRecDepth 20000 in
theorem g_mo_image_44 {d : Nat} {M L : zM} {Q : Int → zW → Prop}  
    (h : Q ((zmu (zmu M 112 11 (M 112 2)) 112 10 1) 112 2) (SH, (zmu (zmu M 112 11 (M 112 2)) 112 10 1), L)) :
    zEx (d + 1) m_mo_image zb0 Q 44 ([zR 112], [], SH, M, L) := zEx_run [11, 22, 33, 44] 2 (by decide) (h)
set_option maxRecDepth 20000 in
theorem g_mo_on_0 {d : Nat} {M L : zM} {Q : Int → zW → Prop}  
    (h : if M 112 10 = 0 then zEv d m_mo_no [zR 112, zI (-3)] (SH, M, L) (fun x w => zEx (d + 1) m_mo_on zb0 Q 13 ([zR 112], [zI x], w)) else zEv d m_mo_copies_ [zR 120, zR 113] (SH, M, L) (fun _ w => zEx (d + 1) m_mo_on zb0 Q 25 ([zR 112], [], w))) :
    zEx (d + 1) m_mo_on zb0 Q 0 ([zR 112], [], SH, M, L) := zEx_run [13, 25, 36, 47, 58] 2 (by decide) (h)
set_option maxRecDepth 20000 in
theorem g_mo_on_13 {d : Nat} {M L : zM} {Q : Int → zW → Prop} {sx0 : Int} 
    (h : Q sx0 (SH, M, L)) :
    zEx (d + 1) m_mo_on zb0 Q 13 ([zR 112], [zI sx0], SH, M, L) := zEx_run [13, 25, 36, 47, 58] 2 (by decide) (h)
set_option maxRecDepth 20000 in
theorem g_mo_on_25 {d : Nat} {M L : zM} {Q : Int → zW → Prop}  
    (h : zEv d m_mo_copies_ [zR 121, zR 114] (SH, M, L) (fun _ w => zEx (d + 1) m_mo_on zb0 Q 36 ([zR 112], [], w))) :
    zEx (d + 1) m_mo_on zb0 Q 25 ([zR 112], [], SH, M, L) := zEx_run [13, 25, 36, 47, 58] 2 (by decide) (h)
set_option maxRecDepth 20000 in
theorem g_mo_on_36 {d : Nat} {M L : zM} {Q : Int → zW → Prop}  
    (h : zEv d m_mo_copies_ [zR 122, zR 115] (SH, M, L) (fun _ w => zEx (d + 1) m_mo_on zb0 Q 47 ([zR 112], [], w))) :
    zEx (d + 1) m_mo_on zb0 Q 36 ([zR 112], [], SH, M, L) := zEx_run [13, 25, 36, 47, 58] 2 (by decide) (h)
set_option maxRecDepth 20000 in
theorem g_mo_on_47 {d : Nat} {M L : zM} {Q : Int → zW → Prop}  
    (h : zEv d m_mo_copies_ [zR 123, zR 116] (SH, M, L) (fun _ w => zEx (d + 1) m_mo_on zb0 Q 58 ([zR 112], [], w))) :
    zEx (d + 1) m_mo_on zb0 Q 47 ([zR 112], [], SH, M, L) := zEx_run [13, 25, 36, 47, 58] 2 (by decide) (h)
set_option maxRecDepth 20000 in
theorem g_mo_on_58 {d : Nat} {M L : zM} {Q : Int → zW → Prop}  
    (h : Q ((zmu (zmu M 112 2 (M 112 11)) 112 8 0) 112 2) (SH, (zmu (zmu M 112 2 (M 112 11)) 112 8 0), L)) :
    zEx (d + 1) m_mo_on zb0 Q 58 ([zR 112], [], SH, M, L) := zEx_run [13, 25, 36, 47, 58] 2 (by decide) (h)
set_option maxRecDepth 20000 in
theorem g_mo_count_0 {d : Nat} {M L : zM} {Q : Int → zW → Prop} {x1 : Int} 
    (h : if x1 = 0 then Q (M 112 2) (SH, M, L) else if x1 = 1 then Q (M 112 7) (SH, M, L) else if x1 = 2 then zEx (d + 1) m_mo_count zb0 Q 48 ([zR 112, zI x1, zI 0, zI 0, zN], [], SH, M, L) else if x1 = 3 then zEx (d + 1) m_mo_count zb0 Q 75 ([zR 112, zI x1, zI 0, zI 0, zN], [], SH, M, L) else if x1 = 4 then Q (M 112 8) (SH, M, L) else zEv d m_mo_isIn [zI x1, zI 11, zI 16] (SH, M, L) (fun x w => zEx (d + 1) m_mo_count zb0 Q 131 ([zR 112, zI x1, zI 0, zN, zN], [zI x], w))) :
    zEx (d + 1) m_mo_count zb0 Q 0 ([zR 112, zI x1, zN, zN, zN], [], SH, M, L) := zEx_run [48, 75, 84, 131] 3 (by decide) (h)
set_option maxRecDepth 20000 in
theorem g_mo_count_48 {d : Nat} {M L : zM} {Q : Int → zW → Prop} {x1 x2 x3 : Int} 
    (h : if x3 < M 112 2 then zck (0 ≤ x3 ∧ x3 < 5) (zEx (d + 1) m_mo_count zb0 Q 48 ([zR 112, zI x1, zI (zwr (x2 + (M 115 (Int.toNat x3)))), zI (zwr (x3 + 1)), zN], [], SH, M, L)) else Q x2 (SH, M, L)) :
    zEx (d + 1) m_mo_count zb0 Q 48 ([zR 112, zI x1, zI x2, zI x3, zN], [], SH, M, L) := zEx_run [48, 75, 84, 131] 2 (by decide) (h)
set_option maxRecDepth 20000 in
theorem g_mo_count_75 {d : Nat} {M L : zM} {Q : Int → zW → Prop} {x1 x2 x3 : Int} {v4 : zV} 
    (h : if x3 < 6 then zEx (d + 1) m_mo_count zb0 Q 84 ([zR 112, zI x1, zI x2, zI x3, zI 0], [], SH, M, L) else Q x2 (SH, M, L)) :
    zEx (d + 1) m_mo_count zb0 Q 75 ([zR 112, zI x1, zI x2, zI x3, v4], [], SH, M, L) := zEx_run [48, 75, 84, 131] 2 (by decide) (h)
set_option maxRecDepth 20000 in
theorem g_mo_count_84 {d : Nat} {M L : zM} {Q : Int → zW → Prop} {x1 x2 x3 x4 : Int} 
    (h : if x4 < x3 then zck (0 ≤ x3 ∧ x3 < 6) (zEx (d + 1) m_mo_count zb0 Q 84 ([zR 112, zI x1, zI (zwr (x2 + (zand (zshr (M 113 (Int.toNat x3)) x4) 1))), zI x3, zI (zwr (x4 + 1))], [], SH, M, L)) else zEx (d + 1) m_mo_count zb0 Q 75 ([zR 112, zI x1, zI x2, zI (zwr (x3 + 1)), zI x4], [], SH, M, L)) :
    zEx (d + 1) m_mo_count zb0 Q 84 ([zR 112, zI x1, zI x2, zI x3, zI x4], [], SH, M, L) := zEx_run [48, 75, 84, 131] 3 (by decide) (h)
set_option maxRecDepth 20000 in
theorem g_mo_count_131 {d : Nat} {M L : zM} {Q : Int → zW → Prop} {x1 x2 sx0 : Int} 
    (h : if sx0 = 0 then Q (-9) (SH, M, L) else zck (0 ≤ zwr (x1 - 10) ∧ zwr (x1 - 10) < 7) (Q (M 117 (Int.toNat (zwr (x1 - 10)))) (SH, M, L))) :
    zEx (d + 1) m_mo_count zb0 Q 131 ([zR 112, zI x1, zI x2, zN, zN], [zI sx0], SH, M, L) := zEx_run [48, 75, 84, 131] 3 (by decide) (h)
