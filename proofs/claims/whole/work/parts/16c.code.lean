/-! stretches of code -/
set_option maxRecDepth 20000 in
theorem g_mo_rules_0 {d : Nat} {M L : zM} {Q : Int → zW → Prop}  
    (h : zEx (d + 1) m_mo_rules zb0 Q 15 ([zR 112, zI 0, zI 1, zN], [], SH, (zmu (zmu M 112 18 0) 112 19 (-9)), L)) :
    zEx (d + 1) m_mo_rules zb0 Q 0 ([zR 112, zN, zN, zN], [], SH, M, L) := zEx_run [15, 24, 40, 87, 114, 116, 157, 184] 2 (by decide) (h)
set_option maxRecDepth 20000 in
theorem g_mo_rules_15 {d : Nat} {M L : zM} {Q : Int → zW → Prop} {x1 x2 : Int} 
    (h : if x2 = 0 then if M 112 18 < M 112 7 then zEv d m_mo_fails [zR 112] (SH, M, L) (fun _ w => zEx (d + 1) m_mo_rules zb0 Q 87 ([zR 112, zI x1, zI x2, zN], [], w)) else zEx (d + 1) m_mo_rules zb0 Q 87 ([zR 112, zI x1, zI x2, zN], [], SH, M, L) else zEv d m_mo_rule [zR 112, zI x1] (SH, M, L) (fun _ w => zEx (d + 1) m_mo_rules zb0 Q 24 ([zR 112, zI x1, zI x2, zN], [], w))) :
    zEx (d + 1) m_mo_rules zb0 Q 15 ([zR 112, zI x1, zI x2, zN], [], SH, M, L) := zEx_run [15, 24, 40, 87, 114, 116, 157, 184] 3 (by decide) (h)
set_option maxRecDepth 20000 in
theorem g_mo_rules_24 {d : Nat} {M L : zM} {Q : Int → zW → Prop} {x1 x2 : Int} 
    (h : if M 112 19 = (-9) then zEv d m_mo_here [zR 112] (SH, M, L) (fun x w => zEx (d + 1) m_mo_rules zb0 Q 40 ([zR 112, zI (zwr (x1 + 1)), zI x2, zN], [zI x], w)) else zEx (d + 1) m_mo_rules zb0 Q 15 ([zR 112, zI (zwr (x1 + 1)), zI 0, zN], [], SH, (zmu M 112 18 (zwr ((M 112 18) + 0))), L)) :
    zEx (d + 1) m_mo_rules zb0 Q 24 ([zR 112, zI x1, zI x2, zN], [], SH, M, L) := zEx_run [15, 24, 40, 87, 114, 116, 157, 184] 6 (by decide) (h)
set_option maxRecDepth 20000 in
theorem g_mo_rules_40 {d : Nat} {M L : zM} {Q : Int → zW → Prop} {x1 x2 sx0 : Int} 
    (h : if sx0 = 44 then zEx (d + 1) m_mo_rules zb0 Q 15 ([zR 112, zI x1, zI 1, zN], [], SH, (zmu M 112 18 (zwr ((M 112 18) + 1))), L) else zEx (d + 1) m_mo_rules zb0 Q 15 ([zR 112, zI x1, zI 0, zN], [], SH, (zmu M 112 18 (zwr ((M 112 18) + 0))), L)) :
    zEx (d + 1) m_mo_rules zb0 Q 40 ([zR 112, zI x1, zI x2, zN], [zI sx0], SH, M, L) := zEx_run [15, 24, 40, 87, 114, 116, 157, 184] 6 (by decide) (h)
set_option maxRecDepth 20000 in
theorem g_mo_rules_87 {d : Nat} {M L : zM} {Q : Int → zW → Prop} {x1 x2 : Int} 
    (h : if (zmu M 112 7 0) 112 19 = (-9) then zEv d m_mo_remembers [zR 112] (SH, (zmu M 112 7 0), L) (fun _ w => zEx (d + 1) m_mo_rules zb0 Q 114 ([zR 112, zI x1, zI x2, zN], [], w)) else Q (zwr ((-1000) - ((zmu M 112 7 0) 112 19))) (SH, (zmu M 112 7 0), L)) :
    zEx (d + 1) m_mo_rules zb0 Q 87 ([zR 112, zI x1, zI x2, zN], [], SH, M, L) := zEx_run [15, 24, 40, 87, 114, 116, 157, 184] 2 (by decide) (h)
set_option maxRecDepth 20000 in
theorem g_mo_rules_114 {d : Nat} {M L : zM} {Q : Int → zW → Prop} {x1 x2 : Int} 
    (h : zEx (d + 1) m_mo_rules zb0 Q 116 ([zR 112, zI x1, zI x2, zI 0], [], SH, M, L)) :
    zEx (d + 1) m_mo_rules zb0 Q 114 ([zR 112, zI x1, zI x2, zN], [], SH, M, L) := zEx_run [15, 24, 40, 87, 114, 116, 157, 184] 2 (by decide) (h)
set_option maxRecDepth 20000 in
theorem g_mo_rules_116 {d : Nat} {M L : zM} {Q : Int → zW → Prop} {x1 x2 x3 : Int} 
    (h : if x3 < x1 then zck (0 ≤ zwr (3 * x3) ∧ zwr (3 * x3) < 216) (if M 126 (Int.toNat (zwr (3 * x3))) = 1 then zck (0 ≤ zwr ((zwr (3 * x3)) + 1) ∧ zwr ((zwr (3 * x3)) + 1) < 216) (zck (0 ≤ zwr ((zwr (3 * x3)) + 2) ∧ zwr ((zwr (3 * x3)) + 2) < 216) (zEv d m_mo_swaps [zR 112, zI (M 126 (Int.toNat (zwr ((zwr (3 * x3)) + 1)))), zI (M 126 (Int.toNat (zwr ((zwr (3 * x3)) + 2))))] (SH, M, L) (fun _ w => zEx (d + 1) m_mo_rules zb0 Q 157 ([zR 112, zI x1, zI x2, zI x3], [], w)))) else zck (0 ≤ zwr ((zwr (3 * x3)) + 1) ∧ zwr ((zwr (3 * x3)) + 1) < 216) (zck (0 ≤ zwr ((zwr (3 * x3)) + 2) ∧ zwr ((zwr (3 * x3)) + 2) < 216) (zEv d m_mo_turns [zR 112, zI (M 126 (Int.toNat (zwr ((zwr (3 * x3)) + 1)))), zI (M 126 (Int.toNat (zwr ((zwr (3 * x3)) + 2))))] (SH, M, L) (fun _ w => zEx (d + 1) m_mo_rules zb0 Q 184 ([zR 112, zI x1, zI x2, zI x3], [], w))))) else Q x1 (SH, M, L)) :
    zEx (d + 1) m_mo_rules zb0 Q 116 ([zR 112, zI x1, zI x2, zI x3], [], SH, M, L) := zEx_run [15, 24, 40, 87, 114, 116, 157, 184] 2 (by decide) (h)
set_option maxRecDepth 20000 in
theorem g_mo_rules_157 {d : Nat} {M L : zM} {Q : Int → zW → Prop} {x1 x2 x3 : Int} 
    (h : zEx (d + 1) m_mo_rules zb0 Q 184 ([zR 112, zI x1, zI x2, zI x3], [], SH, M, L)) :
    zEx (d + 1) m_mo_rules zb0 Q 157 ([zR 112, zI x1, zI x2, zI x3], [], SH, M, L) := zEx_run [15, 24, 40, 87, 114, 116, 157, 184] 2 (by decide) (h)
set_option maxRecDepth 20000 in
theorem g_mo_rules_184 {d : Nat} {M L : zM} {Q : Int → zW → Prop} {x1 x2 x3 : Int} 
    (h : zEx (d + 1) m_mo_rules zb0 Q 116 ([zR 112, zI x1, zI x2, zI (zwr (x3 + 1))], [], SH, M, L)) :
    zEx (d + 1) m_mo_rules zb0 Q 184 ([zR 112, zI x1, zI x2, zI x3], [], SH, M, L) := zEx_run [15, 24, 40, 87, 114, 116, 157, 184] 2 (by decide) (h)
set_option maxRecDepth 20000 in
theorem g_mo_makes_0 {d : Nat} {M L : zM} {Q : Int → zW → Prop} {x1 : Int} 
    (h : if M 112 21 < 14 then zck (0 ≤ M 112 21 ∧ M 112 21 < 14) (if (zmu M 127 (Int.toNat (M 112 21)) x1) 112 21 < 100 then Q 0 (SH, (zmu (zmu M 127 (Int.toNat (M 112 21)) x1) 112 21 (zwr (((zmu M 127 (Int.toNat (M 112 21)) x1) 112 21) + 1))), L) else Q 0 (SH, (zmu (zmu M 127 (Int.toNat (M 112 21)) x1) 112 21 100), L)) else if M 112 21 < 100 then Q 0 (SH, (zmu M 112 21 (zwr ((M 112 21) + 1))), L) else Q 0 (SH, (zmu M 112 21 100), L)) :
    zEx (d + 1) m_mo_makes zb0 Q 0 ([zR 112, zI x1], [], SH, M, L) := zEx_run [] 4 (by decide) (h)
set_option maxRecDepth 20000 in
theorem g_mo_times_0 {d : Nat} {M L : zM} {Q : Int → zW → Prop} {x1 : Int} 
    (h : zEv d m_mo_here [zR 112] (SH, M, L) (fun x w => zEx (d + 1) m_mo_times zb0 Q 4 ([zR 112, zI x1, zN, zN, zN, zN], [zI x], w))) :
    zEx (d + 1) m_mo_times zb0 Q 0 ([zR 112, zI x1, zN, zN, zN, zN], [], SH, M, L) := zEx_run [4, 11, 19, 52, 61, 93] 2 (by decide) (h)
set_option maxRecDepth 20000 in
theorem g_mo_times_4 {d : Nat} {M L : zM} {Q : Int → zW → Prop} {x1 sx0 : Int} 
    (h : zEv d m_mo_isIn [zI sx0, zI 48, zI 57] (SH, M, L) (fun x w => zEx (d + 1) m_mo_times zb0 Q 11 ([zR 112, zI x1, zN, zN, zN, zN], [zI x], w))) :
    zEx (d + 1) m_mo_times zb0 Q 4 ([zR 112, zI x1, zN, zN, zN, zN], [zI sx0], SH, M, L) := zEx_run [4, 11, 19, 52, 61, 93] 2 (by decide) (h)
set_option maxRecDepth 20000 in
theorem g_mo_times_11 {d : Nat} {M L : zM} {Q : Int → zW → Prop} {x1 sx0 : Int} 
    (h : if sx0 = 0 then Q 0 (SH, M, L) else zEv d m_mo_here [zR 112] (SH, M, L) (fun x w => zEx (d + 1) m_mo_times zb0 Q 19 ([zR 112, zI x1, zN, zN, zN, zN], [zI x], w))) :
    zEx (d + 1) m_mo_times zb0 Q 11 ([zR 112, zI x1, zN, zN, zN, zN], [zI sx0], SH, M, L) := zEx_run [4, 11, 19, 52, 61, 93] 2 (by decide) (h)
set_option maxRecDepth 20000 in
theorem g_mo_times_19 {d : Nat} {M L : zM} {Q : Int → zW → Prop} {x1 sx0 : Int} 
    (h : if zwr (sx0 - 48) = 0 then zEx (d + 1) m_mo_times zb0 Q 52 ([zR 112, zI x1, zI (zwr (sx0 - 48)), zI (zwr (((zmu M 112 18 (zwr ((M 112 18) + 1))) 112 21) - x1)), zI 1, zN], [], SH, (zmu (zmu M 112 18 (zwr ((M 112 18) + 1))) 112 21 x1), L) else zEx (d + 1) m_mo_times zb0 Q 52 ([zR 112, zI x1, zI (zwr (sx0 - 48)), zI (zwr (((zmu M 112 18 (zwr ((M 112 18) + 1))) 112 21) - x1)), zI 1, zN], [], SH, (zmu M 112 18 (zwr ((M 112 18) + 1))), L)) :
    zEx (d + 1) m_mo_times zb0 Q 19 ([zR 112, zI x1, zN, zN, zN, zN], [zI sx0], SH, M, L) := zEx_run [4, 11, 19, 52, 61, 93] 3 (by decide) (h)
set_option maxRecDepth 20000 in
theorem g_mo_times_52 {d : Nat} {M L : zM} {Q : Int → zW → Prop} {x1 x2 x3 x4 : Int} {v5 : zV} 
    (h : if x4 < x2 then zEx (d + 1) m_mo_times zb0 Q 61 ([zR 112, zI x1, zI x2, zI x3, zI x4, zI 0], [], SH, M, L) else Q 0 (SH, M, L)) :
    zEx (d + 1) m_mo_times zb0 Q 52 ([zR 112, zI x1, zI x2, zI x3, zI x4, v5], [], SH, M, L) := zEx_run [4, 11, 19, 52, 61, 93] 2 (by decide) (h)
set_option maxRecDepth 20000 in
theorem g_mo_times_61 {d : Nat} {M L : zM} {Q : Int → zW → Prop} {x1 x2 x3 x4 x5 : Int} 
    (h : if x5 < x3 then if zwr (x1 + x5) < 14 then zck (0 ≤ zwr (x1 + x5) ∧ zwr (x1 + x5) < 14) (zEv d m_mo_makes [zR 112, zI (M 127 (Int.toNat (zwr (x1 + x5))))] (SH, M, L) (fun _ w => zEx (d + 1) m_mo_times zb0 Q 93 ([zR 112, zI x1, zI x2, zI x3, zI x4, zI x5], [], w))) else zEv d m_mo_makes [zR 112, zI 0] (SH, M, L) (fun _ w => zEx (d + 1) m_mo_times zb0 Q 93 ([zR 112, zI x1, zI x2, zI x3, zI x4, zI x5], [], w)) else zEx (d + 1) m_mo_times zb0 Q 52 ([zR 112, zI x1, zI x2, zI x3, zI (zwr (x4 + 1)), zI x5], [], SH, M, L)) :
    zEx (d + 1) m_mo_times zb0 Q 61 ([zR 112, zI x1, zI x2, zI x3, zI x4, zI x5], [], SH, M, L) := zEx_run [4, 11, 19, 52, 61, 93] 3 (by decide) (h)
set_option maxRecDepth 20000 in
theorem g_mo_times_93 {d : Nat} {M L : zM} {Q : Int → zW → Prop} {x1 x2 x3 x4 x5 : Int} 
    (h : zEx (d + 1) m_mo_times zb0 Q 61 ([zR 112, zI x1, zI x2, zI x3, zI x4, zI (zwr (x5 + 1))], [], SH, M, L)) :
    zEx (d + 1) m_mo_times zb0 Q 93 ([zR 112, zI x1, zI x2, zI x3, zI x4, zI x5], [], SH, M, L) := zEx_run [4, 11, 19, 52, 61, 93] 2 (by decide) (h)
set_option maxRecDepth 20000 in
theorem g_mo_reads_0 {d : Nat} {M L : zM} {Q : Int → zW → Prop} {x1 : Int} {v2 : zV} 
    (h : if M 112 19 = (-9) then zEv d m_mo_isSign [zR 112] (SH, M, L) (fun x w => zEx (d + 1) m_mo_reads zb0 Q 13 ([zR 112, zI x1, v2], [zI x], w)) else Q 0 (SH, M, L)) :
    zEx (d + 1) m_mo_reads zb0 Q 0 ([zR 112, zI x1, v2], [], SH, M, L) := zEx_run [0, 13, 20, 34, 42, 48, 70, 88, 101, 110, 126] 2 (by decide) (h)
set_option maxRecDepth 20000 in
theorem g_mo_reads_13 {d : Nat} {M L : zM} {Q : Int → zW → Prop} {x1 sx0 : Int} {v2 : zV} 
    (h : if sx0 = 0 then zEv d m_mo_here [zR 112] (SH, M, L) (fun x w => zEx (d + 1) m_mo_reads zb0 Q 20 ([zR 112, zI x1, v2], [zI x], w)) else zEv d m_mo_isSign [zR 112] (SH, M, L) (fun x w => zEx (d + 1) m_mo_reads zb0 Q 34 ([zR 112, zI x1, zI (M 112 21)], [zI x], w))) :
    zEx (d + 1) m_mo_reads zb0 Q 13 ([zR 112, zI x1, v2], [zI sx0], SH, M, L) := zEx_run [0, 13, 20, 34, 42, 48, 70, 88, 101, 110, 126] 2 (by decide) (h)
set_option maxRecDepth 20000 in
theorem g_mo_reads_20 {d : Nat} {M L : zM} {Q : Int → zW → Prop} {x1 sx0 : Int} {v2 : zV} 
    (h : if sx0 = 40 then zEv d m_mo_isSign [zR 112] (SH, M, L) (fun x w => zEx (d + 1) m_mo_reads zb0 Q 34 ([zR 112, zI x1, zI (M 112 21)], [zI x], w)) else Q 0 (SH, M, L)) :
    zEx (d + 1) m_mo_reads zb0 Q 20 ([zR 112, zI x1, v2], [zI sx0], SH, M, L) := zEx_run [0, 13, 20, 34, 42, 48, 70, 88, 101, 110, 126] 2 (by decide) (h)
set_option maxRecDepth 20000 in
theorem g_mo_reads_34 {d : Nat} {M L : zM} {Q : Int → zW → Prop} {x1 x2 sx0 : Int} 
    (h : if sx0 = 0 then if x1 = 5 then zEv d m_mo_fails [zR 112] (SH, M, L) (fun _ w => zEx (d + 1) m_mo_reads zb0 Q 70 ([zR 112, zI x1, zI x2], [], w)) else zEv d m_mo_reads [zR 112, zI (zwr (x1 + 1))] (SH, (zmu M 112 18 (zwr ((M 112 18) + 1))), L) (fun _ w => zEx (d + 1) m_mo_reads zb0 Q 88 ([zR 112, zI x1, zI x2], [], w)) else zEv d m_mo_here [zR 112] (SH, M, L) (fun x w => zEx (d + 1) m_mo_reads zb0 Q 42 ([zR 112, zI x1, zI x2], [zI x, zR 112], w))) :
    zEx (d + 1) m_mo_reads zb0 Q 34 ([zR 112, zI x1, zI x2], [zI sx0], SH, M, L) := zEx_run [0, 13, 20, 34, 42, 48, 70, 88, 101, 110, 126] 3 (by decide) (h)
set_option maxRecDepth 20000 in
theorem g_mo_reads_42 {d : Nat} {M L : zM} {Q : Int → zW → Prop} {x1 x2 sx0 : Int} 
    (h : zEv d m_mo_makes [zR 112, zI (zwr (sx0 - 97))] (SH, M, L) (fun _ w => zEx (d + 1) m_mo_reads zb0 Q 48 ([zR 112, zI x1, zI x2], [], w))) :
    zEx (d + 1) m_mo_reads zb0 Q 42 ([zR 112, zI x1, zI x2], [zI sx0, zR 112], SH, M, L) := zEx_run [0, 13, 20, 34, 42, 48, 70, 88, 101, 110, 126] 2 (by decide) (h)
set_option maxRecDepth 20000 in
theorem g_mo_reads_48 {d : Nat} {M L : zM} {Q : Int → zW → Prop} {x1 x2 : Int} 
    (h : zEv d m_mo_times [zR 112, zI x2] (SH, (zmu M 112 18 (zwr ((M 112 18) + 1))), L) (fun _ w => zEx (d + 1) m_mo_reads zb0 Q 126 ([zR 112, zI x1, zI x2], [], w))) :
    zEx (d + 1) m_mo_reads zb0 Q 48 ([zR 112, zI x1, zI x2], [], SH, M, L) := zEx_run [0, 13, 20, 34, 42, 48, 70, 88, 101, 110, 126] 2 (by decide) (h)
set_option maxRecDepth 20000 in
theorem g_mo_reads_70 {d : Nat} {M L : zM} {Q : Int → zW → Prop} {x1 x2 : Int} 
    (h : Q 0 (SH, M, L)) :
    zEx (d + 1) m_mo_reads zb0 Q 70 ([zR 112, zI x1, zI x2], [], SH, M, L) := zEx_run [0, 13, 20, 34, 42, 48, 70, 88, 101, 110, 126] 2 (by decide) (h)
set_option maxRecDepth 20000 in
theorem g_mo_reads_88 {d : Nat} {M L : zM} {Q : Int → zW → Prop} {x1 x2 : Int} 
    (h : if M 112 19 = (-9) then zEv d m_mo_here [zR 112] (SH, M, L) (fun x w => zEx (d + 1) m_mo_reads zb0 Q 101 ([zR 112, zI x1, zI x2], [zI x], w)) else zEv d m_mo_fails [zR 112] (SH, M, L) (fun _ w => zEx (d + 1) m_mo_reads zb0 Q 110 ([zR 112, zI x1, zI x2], [], w))) :
    zEx (d + 1) m_mo_reads zb0 Q 88 ([zR 112, zI x1, zI x2], [], SH, M, L) := zEx_run [0, 13, 20, 34, 42, 48, 70, 88, 101, 110, 126] 2 (by decide) (h)
set_option maxRecDepth 20000 in
theorem g_mo_reads_101 {d : Nat} {M L : zM} {Q : Int → zW → Prop} {x1 x2 sx0 : Int} 
    (h : if sx0 = 41 then zEv d m_mo_times [zR 112, zI x2] (SH, (zmu M 112 18 (zwr ((M 112 18) + 1))), L) (fun _ w => zEx (d + 1) m_mo_reads zb0 Q 126 ([zR 112, zI x1, zI x2], [], w)) else zEv d m_mo_fails [zR 112] (SH, M, L) (fun _ w => zEx (d + 1) m_mo_reads zb0 Q 110 ([zR 112, zI x1, zI x2], [], w))) :
    zEx (d + 1) m_mo_reads zb0 Q 101 ([zR 112, zI x1, zI x2], [zI sx0], SH, M, L) := zEx_run [0, 13, 20, 34, 42, 48, 70, 88, 101, 110, 126] 3 (by decide) (h)
set_option maxRecDepth 20000 in
theorem g_mo_reads_110 {d : Nat} {M L : zM} {Q : Int → zW → Prop} {x1 x2 : Int} 
    (h : Q 0 (SH, M, L)) :
    zEx (d + 1) m_mo_reads zb0 Q 110 ([zR 112, zI x1, zI x2], [], SH, M, L) := zEx_run [0, 13, 20, 34, 42, 48, 70, 88, 101, 110, 126] 2 (by decide) (h)
set_option maxRecDepth 20000 in
theorem g_mo_reads_126 {d : Nat} {M L : zM} {Q : Int → zW → Prop} {x1 x2 : Int} 
    (h : zEx (d + 1) m_mo_reads zb0 Q 0 ([zR 112, zI x1, zI x2], [], SH, M, L)) :
    zEx (d + 1) m_mo_reads zb0 Q 126 ([zR 112, zI x1, zI x2], [], SH, M, L) := zEx_run [0, 13, 20, 34, 42, 48, 70, 88, 101, 110, 126] 2 (by decide) (h)
set_option maxRecDepth 20000 in
theorem g_mo_comes_0 {d : Nat} {M L : zM} {Q : Int → zW → Prop} {r1 : Nat} {x2 : Int} (hr1 : zkd SH r1 = 20)
    (h : zEx (d + 1) m_mo_comes zb0 Q 2 ([zR 112, zR r1, zI x2, zI 0], [], SH, M, L)) :
    zEx (d + 1) m_mo_comes zb0 Q 0 ([zR 112, zR r1, zI x2, zN], [], SH, M, L) := zEx_run [2] 2 (by decide) (h)
set_option maxRecDepth 20000 in
theorem g_mo_comes_2 {d : Nat} {M L : zM} {Q : Int → zW → Prop} {r1 : Nat} {x2 x3 : Int} (hr1 : zkd SH r1 = 20)
    (h : if x3 < x2 then zck (0 ≤ x3 ∧ x3 < zln SH r1) (zck (0 ≤ zwr ((zwr (14 * (M 112 2))) + x3) ∧ zwr ((zwr (14 * (M 112 2))) + x3) < 70) (zEx (d + 1) m_mo_comes zb0 Q 2 ([zR 112, zR r1, zI x2, zI (zwr (x3 + 1))], [], SH, (zmu M 116 (Int.toNat (zwr ((zwr (14 * (M 112 2))) + x3))) (M r1 (Int.toNat x3))), L))) else zck (0 ≤ M 112 2 ∧ M 112 2 < 5) (Q (zwr (((zmu (zmu M 115 (Int.toNat (M 112 2)) x2) 112 2 (zwr (((zmu M 115 (Int.toNat (M 112 2)) x2) 112 2) + 1))) 112 2) - 1)) (SH, (zmu (zmu M 115 (Int.toNat (M 112 2)) x2) 112 2 (zwr (((zmu M 115 (Int.toNat (M 112 2)) x2) 112 2) + 1))), L))) :
    zEx (d + 1) m_mo_comes zb0 Q 2 ([zR 112, zR r1, zI x2, zI x3], [], SH, M, L) := zEx_run [2] 2 (by decide) (zit (c := x3 < x2) h (fun h => zixm hr1 h (fun h => h)) (fun h => h))
set_option maxRecDepth 20000 in
theorem g_mo_word_0 {d : Nat} {M L : zM} {Q : Int → zW → Prop}  
    (h : zEv d m_mo_reads [zR 112, zI 0] (SH, (zmu (zmu (zmu M 112 18 0) 112 19 (-9)) 112 21 0), L) (fun _ w => zEx (d + 1) m_mo_word zb0 Q 21 ([zR 112], [], w))) :
    zEx (d + 1) m_mo_word zb0 Q 0 ([zR 112], [], SH, M, L) := zEx_run [21, 36, 94] 2 (by decide) (h)
set_option maxRecDepth 20000 in
theorem g_mo_word_21 {d : Nat} {M L : zM} {Q : Int → zW → Prop}  
    (h : if M 112 18 < M 112 7 then zEv d m_mo_fails [zR 112] (SH, M, L) (fun _ w => zEx (d + 1) m_mo_word zb0 Q 36 ([zR 112], [], w)) else zEx (d + 1) m_mo_word zb0 Q 36 ([zR 112], [], SH, M, L)) :
    zEx (d + 1) m_mo_word zb0 Q 21 ([zR 112], [], SH, M, L) := zEx_run [21, 36, 94] 2 (by decide) (h)
set_option maxRecDepth 20000 in
theorem g_mo_word_36 {d : Nat} {M L : zM} {Q : Int → zW → Prop}  
    (h : if (zmu M 112 7 0) 112 19 = (-9) then if 14 < (zmu M 112 7 0) 112 21 then zEx (d + 1) m_mo_word zb0 Q 94 ([zR 112], [zI (-2000)], SH, (zmu M 112 7 0), L) else if (zmu M 112 7 0) 112 2 = 5 then zEx (d + 1) m_mo_word zb0 Q 94 ([zR 112], [zI (-2000)], SH, (zmu M 112 7 0), L) else zEv d m_mo_comes [zR 112, zR 127, zI ((zmu M 112 7 0) 112 21)] (SH, (zmu M 112 7 0), L) (fun x w => zEx (d + 1) m_mo_word zb0 Q 94 ([zR 112], [zI x], w)) else Q (zwr ((-1000) - ((zmu M 112 7 0) 112 19))) (SH, (zmu M 112 7 0), L)) :
    zEx (d + 1) m_mo_word zb0 Q 36 ([zR 112], [], SH, M, L) := zEx_run [21, 36, 94] 4 (by decide) (h)
set_option maxRecDepth 20000 in
theorem g_mo_word_94 {d : Nat} {M L : zM} {Q : Int → zW → Prop} {sx0 : Int} 
    (h : Q sx0 (SH, M, L)) :
    zEx (d + 1) m_mo_word zb0 Q 94 ([zR 112], [zI sx0], SH, M, L) := zEx_run [21, 36, 94] 2 (by decide) (h)
set_option maxRecDepth 20000 in
theorem g_mo_at_0 {d : Nat} {M L : zM} {Q : Int → zW → Prop} {x1 x2 : Int} 
    (h : zEv d m_mo_isWord [zR 112, zI x1] (SH, M, L) (fun x w => zEx (d + 1) m_mo_at zb0 Q 5 ([zR 112, zI x1, zI x2], [zI x], w))) :
    zEx (d + 1) m_mo_at zb0 Q 0 ([zR 112, zI x1, zI x2], [], SH, M, L) := zEx_run [5, 13, 25] 2 (by decide) (h)
set_option maxRecDepth 20000 in
theorem g_mo_at_5 {d : Nat} {M L : zM} {Q : Int → zW → Prop} {x1 x2 sx0 : Int} 
    (h : if sx0 = 0 then zEv d m_mo_no [zR 112, zI (-1)] (SH, M, L) (fun x w => zEx (d + 1) m_mo_at zb0 Q 13 ([zR 112, zI x1, zI x2], [zI x], w)) else if x2 < (-1) then zEv d m_mo_no [zR 112, zI (-4)] (SH, M, L) (fun x w => zEx (d + 1) m_mo_at zb0 Q 25 ([zR 112, zI x1, zI x2], [zI x], w)) else if x2 = (-1) then zck (0 ≤ x1 ∧ x1 < 5) (Q (M 115 (Int.toNat x1)) (SH, M, L)) else zck (0 ≤ x1 ∧ x1 < 5) (if x2 < M 115 (Int.toNat x1) then zck (0 ≤ zwr ((zwr (14 * x1)) + x2) ∧ zwr ((zwr (14 * x1)) + x2) < 70) (Q (M 116 (Int.toNat (zwr ((zwr (14 * x1)) + x2)))) (SH, M, L)) else Q (-9) (SH, M, L))) :
    zEx (d + 1) m_mo_at zb0 Q 5 ([zR 112, zI x1, zI x2], [zI sx0], SH, M, L) := zEx_run [5, 13, 25] 6 (by decide) (h)
set_option maxRecDepth 20000 in
theorem g_mo_at_13 {d : Nat} {M L : zM} {Q : Int → zW → Prop} {x1 x2 sx0 : Int} 
    (h : Q sx0 (SH, M, L)) :
    zEx (d + 1) m_mo_at zb0 Q 13 ([zR 112, zI x1, zI x2], [zI sx0], SH, M, L) := zEx_run [5, 13, 25] 2 (by decide) (h)
set_option maxRecDepth 20000 in
theorem g_mo_at_25 {d : Nat} {M L : zM} {Q : Int → zW → Prop} {x1 x2 sx0 : Int} 
    (h : Q sx0 (SH, M, L)) :
    zEx (d + 1) m_mo_at zb0 Q 25 ([zR 112, zI x1, zI x2], [zI sx0], SH, M, L) := zEx_run [5, 13, 25] 2 (by decide) (h)
set_option maxRecDepth 20000 in
theorem g_mo_drop_0 {d : Nat} {M L : zM} {Q : Int → zW → Prop}  
    (h : if M 112 2 = 0 then zEv d m_mo_no [zR 112, zI (-3)] (SH, M, L) (fun x w => zEx (d + 1) m_mo_drop zb0 Q 13 ([zR 112], [zI x], w)) else Q ((zmu M 112 2 (zwr ((M 112 2) - 1))) 112 2) (SH, (zmu M 112 2 (zwr ((M 112 2) - 1))), L)) :
    zEx (d + 1) m_mo_drop zb0 Q 0 ([zR 112], [], SH, M, L) := zEx_run [13] 2 (by decide) (h)
set_option maxRecDepth 20000 in
theorem g_mo_drop_13 {d : Nat} {M L : zM} {Q : Int → zW → Prop} {sx0 : Int} 
    (h : Q sx0 (SH, M, L)) :
    zEx (d + 1) m_mo_drop zb0 Q 13 ([zR 112], [zI sx0], SH, M, L) := zEx_run [13] 2 (by decide) (h)
set_option maxRecDepth 20000 in
theorem g_mo_loads_0 {d : Nat} {M L : zM} {Q : Int → zW → Prop} {r1 : Nat} {x2 x3 : Int} (hr1 : zkd SH r1 = 20)
    (h : zEx (d + 1) m_mo_loads zb0 Q 3 ([zR 112, zR r1, zI x2, zI x3, zI 0], [], SH, M, L)) :
    zEx (d + 1) m_mo_loads zb0 Q 0 ([zR 112, zR r1, zI x2, zI x3, zN], [], SH, M, L) := zEx_run [3] 2 (by decide) (h)
set_option maxRecDepth 20000 in
theorem g_mo_loads_3 {d : Nat} {M L : zM} {Q : Int → zW → Prop} {r1 : Nat} {x2 x3 x4 : Int} (hr1 : zkd SH r1 = 20)
    (h : zck (0 ≤ x3 ∧ x3 < 5) (if x4 < M 115 (Int.toNat x3) then zck (0 ≤ zwr ((zwr (14 * x3)) + x4) ∧ zwr ((zwr (14 * x3)) + x4) < 70) (zck (0 ≤ zwr (x2 + x4) ∧ zwr (x2 + x4) < zln SH r1) (zEx (d + 1) m_mo_loads zb0 Q 3 ([zR 112, zR r1, zI x2, zI x3, zI (zwr (x4 + 1))], [], SH, (zmu M r1 (Int.toNat (zwr (x2 + x4))) (M 116 (Int.toNat (zwr ((zwr (14 * x3)) + x4))))), L))) else zck (0 ≤ x3 ∧ x3 < 5) (Q (zwr (x2 + (M 115 (Int.toNat x3)))) (SH, M, L)))) :
    zEx (d + 1) m_mo_loads zb0 Q 3 ([zR 112, zR r1, zI x2, zI x3, zI x4], [], SH, M, L) := zEx_run [3] 2 (by decide) (zckm h (fun h => zit (c := x4 < M 115 (Int.toNat x3)) h (fun h => zckm h (fun h => zixm hr1 h (fun h => h))) (fun h => h)))
set_option maxRecDepth 20000 in
theorem g_mo_isReady_0 {d : Nat} {M L : zM} {Q : Int → zW → Prop} {r1 : Nat} {x2 : Int} (hr1 : zkd SH r1 = 20)
    (h : zEx (d + 1) m_mo_isReady zb0 Q 2 ([zR 112, zR r1, zI x2, zI 0], [], SH, M, L)) :
    zEx (d + 1) m_mo_isReady zb0 Q 0 ([zR 112, zR r1, zI x2, zN], [], SH, M, L) := zEx_run [2, 17] 2 (by decide) (h)
set_option maxRecDepth 20000 in
theorem g_mo_isReady_2 {d : Nat} {M L : zM} {Q : Int → zW → Prop} {r1 : Nat} {x2 x3 : Int} (hr1 : zkd SH r1 = 20)
    (h : if x3 < x2 then zck (0 ≤ x2 ∧ x2 < zln SH r1) (zck (0 ≤ x3 ∧ x3 < zln SH r1) (zEv d m_mo_passes_ [zR 112, zI (M r1 (Int.toNat x2)), zI (M r1 (Int.toNat x3))] (SH, M, L) (fun x w => zEx (d + 1) m_mo_isReady zb0 Q 17 ([zR 112, zR r1, zI x2, zI x3], [zI x], w)))) else Q 1 (SH, M, L)) :
    zEx (d + 1) m_mo_isReady zb0 Q 2 ([zR 112, zR r1, zI x2, zI x3], [], SH, M, L) := zEx_run [2, 17] 2 (by decide) (zit (c := x3 < x2) h (fun h => zixm hr1 h (fun h => zixm hr1 h (fun h => h))) (fun h => h))
set_option maxRecDepth 20000 in
theorem g_mo_isReady_17 {d : Nat} {M L : zM} {Q : Int → zW → Prop} {r1 : Nat} {x2 x3 sx0 : Int} (hr1 : zkd SH r1 = 20)
    (h : if sx0 = 0 then Q 0 (SH, M, L) else zEx (d + 1) m_mo_isReady zb0 Q 2 ([zR 112, zR r1, zI x2, zI (zwr (x3 + 1))], [], SH, M, L)) :
    zEx (d + 1) m_mo_isReady zb0 Q 17 ([zR 112, zR r1, zI x2, zI x3], [zI sx0], SH, M, L) := zEx_run [2, 17] 3 (by decide) (h)
set_option maxRecDepth 20000 in
theorem g_mo_goes_0 {d : Nat} {M L : zM} {Q : Int → zW → Prop} {r0 : Nat} {x1 x2 : Int} (hr0 : zkd SH r0 = 20)
    (h : zEx (d + 1) m_mo_goes zb0 Q 2 ([zR r0, zI x1, zI x2, zI x2], [], SH, M, L)) :
    zEx (d + 1) m_mo_goes zb0 Q 0 ([zR r0, zI x1, zI x2, zN], [], SH, M, L) := zEx_run [2] 2 (by decide) (h)
set_option maxRecDepth 20000 in
theorem g_mo_goes_2 {d : Nat} {M L : zM} {Q : Int → zW → Prop} {r0 : Nat} {x1 x2 x3 : Int} (hr0 : zkd SH r0 = 20)
    (h : if x3 < zwr (x1 - 1) then zck (0 ≤ zwr (x3 + 1) ∧ zwr (x3 + 1) < zln SH r0) (zck (0 ≤ x3 ∧ x3 < zln SH r0) (zEx (d + 1) m_mo_goes zb0 Q 2 ([zR r0, zI x1, zI x2, zI (zwr (x3 + 1))], [], SH, (zmu M r0 (Int.toNat x3) (M r0 (Int.toNat (zwr (x3 + 1))))), L))) else Q 0 (SH, M, L)) :
    zEx (d + 1) m_mo_goes zb0 Q 2 ([zR r0, zI x1, zI x2, zI x3], [], SH, M, L) := zEx_run [2] 2 (by decide) (zit (c := x3 < zwr (x1 - 1)) h (fun h => zixm hr0 h (fun h => zixm hr0 h (fun h => h))) (fun h => h))
set_option maxRecDepth 20000 in
theorem g_mo_takes_0 {d : Nat} {M L : zM} {Q : Int → zW → Prop} {r1 r3 : Nat} {x2 x4 : Int} (hr1 : zkd SH r1 = 20) (hr3 : zkd SH r3 = 20)
    (h : zEx (d + 1) m_mo_takes zb0 Q 3 ([zR 112, zR r1, zI x2, zR r3, zI x4, zI 0, zN, zN], [], SH, M, L)) :
    zEx (d + 1) m_mo_takes zb0 Q 0 ([zR 112, zR r1, zI x2, zR r3, zI x4, zN, zN, zN], [], SH, M, L) := zEx_run [3, 29, 42, 61, 145] 2 (by decide) (h)
set_option maxRecDepth 20000 in
theorem g_mo_takes_3 {d : Nat} {M L : zM} {Q : Int → zW → Prop} {r1 r3 : Nat} {x2 x4 x5 : Int} (hr1 : zkd SH r1 = 20) (hr3 : zkd SH r3 = 20)
    (h : if x5 < x2 then zck (0 ≤ x5 ∧ x5 < zln SH r1) (zck (0 ≤ x5 ∧ x5 < 28) (zEx (d + 1) m_mo_takes zb0 Q 3 ([zR 112, zR r1, zI x2, zR r3, zI x4, zI (zwr (x5 + 1)), zN, zN], [], SH, (zmu M 130 (Int.toNat x5) (M r1 (Int.toNat x5))), L))) else zEx (d + 1) m_mo_takes zb0 Q 29 ([zR 112, zR r1, zI x2, zR r3, zI x4, zI 0, zN, zN], [], SH, M, L)) :
    zEx (d + 1) m_mo_takes zb0 Q 3 ([zR 112, zR r1, zI x2, zR r3, zI x4, zI x5, zN, zN], [], SH, M, L) := zEx_run [3, 29, 42, 61, 145] 3 (by decide) (zit (c := x5 < x2) h (fun h => zixm hr1 h (fun h => h)) (fun h => h))
set_option maxRecDepth 20000 in
theorem g_mo_takes_29 {d : Nat} {M L : zM} {Q : Int → zW → Prop} {r1 r3 : Nat} {x2 x4 x5 : Int} {v6 v7 : zV} (hr1 : zkd SH r1 = 20) (hr3 : zkd SH r3 = 20)
    (h : if x5 < x2 then zEx (d + 1) m_mo_takes zb0 Q 42 ([zR 112, zR r1, zI x2, zR r3, zI x4, zI x5, zI (-9), zI 0], [], SH, M, L) else Q 0 (SH, M, L)) :
    zEx (d + 1) m_mo_takes zb0 Q 29 ([zR 112, zR r1, zI x2, zR r3, zI x4, zI x5, v6, v7], [], SH, M, L) := zEx_run [3, 29, 42, 61, 145] 2 (by decide) (h)
set_option maxRecDepth 20000 in
theorem g_mo_takes_42 {d : Nat} {M L : zM} {Q : Int → zW → Prop} {r1 r3 : Nat} {x2 x4 x5 x6 x7 : Int} (hr1 : zkd SH r1 = 20) (hr3 : zkd SH r3 = 20)
    (h : if x7 < zwr (x2 - x5) then zEv d m_mo_isReady [zR 112, zR 130, zI x7] (SH, M, L) (fun x w => zEx (d + 1) m_mo_takes zb0 Q 61 ([zR 112, zR r1, zI x2, zR r3, zI x4, zI x5, zI x6, zI x7], [zI x], w)) else zck (0 ≤ x6 ∧ x6 < 28) (zck (0 ≤ x5 ∧ x5 < zln SH r3) (zEv d m_mo_goes [zR 130, zI (zwr (x2 - x5)), zI x6] (SH, (zmu M r3 (Int.toNat x5) (M 130 (Int.toNat x6))), L) (fun _ w => zEx (d + 1) m_mo_takes zb0 Q 145 ([zR 112, zR r1, zI x2, zR r3, zI x4, zI x5, zI x6, zI x7], [], w))))) :
    zEx (d + 1) m_mo_takes zb0 Q 42 ([zR 112, zR r1, zI x2, zR r3, zI x4, zI x5, zI x6, zI x7], [], SH, M, L) := zEx_run [3, 29, 42, 61, 145] 2 (by decide) (zit (c := x7 < zwr (x2 - x5)) h (fun h => h) (fun h => zckm h (fun h => zixm hr3 h (fun h => h))))
set_option maxRecDepth 20000 in
theorem g_mo_takes_61 {d : Nat} {M L : zM} {Q : Int → zW → Prop} {r1 r3 : Nat} {x2 x4 x5 x6 x7 sx0 : Int} (hr1 : zkd SH r1 = 20) (hr3 : zkd SH r3 = 20)
    (h : if sx0 = 0 then zEx (d + 1) m_mo_takes zb0 Q 42 ([zR 112, zR r1, zI x2, zR r3, zI x4, zI x5, zI x6, zI (zwr (x7 + 1))], [], SH, M, L) else if x6 = (-9) then zEx (d + 1) m_mo_takes zb0 Q 42 ([zR 112, zR r1, zI x2, zR r3, zI x4, zI x5, zI x7, zI (zwr (x7 + 1))], [], SH, M, L) else zck (0 ≤ x7 ∧ x7 < 28) (zck (0 ≤ M 130 (Int.toNat x7) ∧ M 130 (Int.toNat x7) < 6) (zck (0 ≤ x6 ∧ x6 < 28) (zck (0 ≤ M 130 (Int.toNat x6) ∧ M 130 (Int.toNat x6) < 6) (if M 114 (Int.toNat (M 130 (Int.toNat x7))) < M 114 (Int.toNat (M 130 (Int.toNat x6))) then if 1 = x4 then zEx (d + 1) m_mo_takes zb0 Q 42 ([zR 112, zR r1, zI x2, zR r3, zI x4, zI x5, zI x6, zI (zwr (x7 + 1))], [], SH, M, L) else zEx (d + 1) m_mo_takes zb0 Q 42 ([zR 112, zR r1, zI x2, zR r3, zI x4, zI x5, zI x7, zI (zwr (x7 + 1))], [], SH, M, L) else if 0 = x4 then zEx (d + 1) m_mo_takes zb0 Q 42 ([zR 112, zR r1, zI x2, zR r3, zI x4, zI x5, zI x6, zI (zwr (x7 + 1))], [], SH, M, L) else zEx (d + 1) m_mo_takes zb0 Q 42 ([zR 112, zR r1, zI x2, zR r3, zI x4, zI x5, zI x7, zI (zwr (x7 + 1))], [], SH, M, L)))))) :
    zEx (d + 1) m_mo_takes zb0 Q 61 ([zR 112, zR r1, zI x2, zR r3, zI x4, zI x5, zI x6, zI x7], [zI sx0], SH, M, L) := zEx_run [3, 29, 42, 61, 145] 7 (by decide) (h)
set_option maxRecDepth 20000 in
theorem g_mo_takes_145 {d : Nat} {M L : zM} {Q : Int → zW → Prop} {r1 r3 : Nat} {x2 x4 x5 x6 x7 : Int} (hr1 : zkd SH r1 = 20) (hr3 : zkd SH r3 = 20)
    (h : zEx (d + 1) m_mo_takes zb0 Q 29 ([zR 112, zR r1, zI x2, zR r3, zI x4, zI (zwr (x5 + 1)), zI x6, zI x7], [], SH, M, L)) :
    zEx (d + 1) m_mo_takes zb0 Q 145 ([zR 112, zR r1, zI x2, zR r3, zI x4, zI x5, zI x6, zI x7], [], SH, M, L) := zEx_run [3, 29, 42, 61, 145] 2 (by decide) (h)
set_option maxRecDepth 20000 in
theorem g_mo_areAlike_0 {d : Nat} {M L : zM} {Q : Int → zW → Prop} {r1 r2 : Nat} {x3 : Int} (hr1 : zkd SH r1 = 20) (hr2 : zkd SH r2 = 20)
    (h : zEv d m_mo_takes [zR 112, zR r1, zI x3, zR 131, zI 0] (SH, M, L) (fun _ w => zEx (d + 1) m_mo_areAlike zb0 Q 11 ([zR 112, zR r1, zR r2, zI x3, zN], [], w))) :
    zEx (d + 1) m_mo_areAlike zb0 Q 0 ([zR 112, zR r1, zR r2, zI x3, zN], [], SH, M, L) := zEx_run [11, 22, 25] 2 (by decide) (h)
set_option maxRecDepth 20000 in
theorem g_mo_areAlike_11 {d : Nat} {M L : zM} {Q : Int → zW → Prop} {r1 r2 : Nat} {x3 : Int} (hr1 : zkd SH r1 = 20) (hr2 : zkd SH r2 = 20)
    (h : zEv d m_mo_takes [zR 112, zR r2, zI x3, zR 132, zI 0] (SH, M, L) (fun _ w => zEx (d + 1) m_mo_areAlike zb0 Q 22 ([zR 112, zR r1, zR r2, zI x3, zN], [], w))) :
    zEx (d + 1) m_mo_areAlike zb0 Q 11 ([zR 112, zR r1, zR r2, zI x3, zN], [], SH, M, L) := zEx_run [11, 22, 25] 2 (by decide) (h)
set_option maxRecDepth 20000 in
theorem g_mo_areAlike_22 {d : Nat} {M L : zM} {Q : Int → zW → Prop} {r1 r2 : Nat} {x3 : Int} (hr1 : zkd SH r1 = 20) (hr2 : zkd SH r2 = 20)
    (h : zEx (d + 1) m_mo_areAlike zb0 Q 25 ([zR 112, zR r1, zR r2, zI x3, zI 0], [], SH, M, L)) :
    zEx (d + 1) m_mo_areAlike zb0 Q 22 ([zR 112, zR r1, zR r2, zI x3, zN], [], SH, M, L) := zEx_run [11, 22, 25] 2 (by decide) (h)
set_option maxRecDepth 20000 in
theorem g_mo_areAlike_25 {d : Nat} {M L : zM} {Q : Int → zW → Prop} {r1 r2 : Nat} {x3 x4 : Int} (hr1 : zkd SH r1 = 20) (hr2 : zkd SH r2 = 20)
    (h : if x4 < x3 then zck (0 ≤ x4 ∧ x4 < 28) (zck (0 ≤ x4 ∧ x4 < 28) (if M 131 (Int.toNat x4) = M 132 (Int.toNat x4) then zEx (d + 1) m_mo_areAlike zb0 Q 25 ([zR 112, zR r1, zR r2, zI x3, zI (zwr (x4 + 1))], [], SH, M, L) else Q 0 (SH, M, L))) else Q 1 (SH, M, L)) :
    zEx (d + 1) m_mo_areAlike zb0 Q 25 ([zR 112, zR r1, zR r2, zI x3, zI x4], [], SH, M, L) := zEx_run [11, 22, 25] 3 (by decide) (h)
set_option maxRecDepth 20000 in
theorem g_mo_alike_0 {d : Nat} {M L : zM} {Q : Int → zW → Prop} {x1 x2 : Int} 
    (h : zEv d m_mo_isWord [zR 112, zI x1] (SH, M, L) (fun x w => zEx (d + 1) m_mo_alike zb0 Q 5 ([zR 112, zI x1, zI x2], [zI x], w))) :
    zEx (d + 1) m_mo_alike zb0 Q 0 ([zR 112, zI x1, zI x2], [], SH, M, L) := zEx_run [5, 13, 21, 49, 60, 79] 2 (by decide) (h)
set_option maxRecDepth 20000 in
theorem g_mo_alike_5 {d : Nat} {M L : zM} {Q : Int → zW → Prop} {x1 x2 sx0 : Int} 
    (h : if sx0 = 0 then zEv d m_mo_no [zR 112, zI (-1)] (SH, M, L) (fun x w => zEx (d + 1) m_mo_alike zb0 Q 21 ([zR 112, zI x1, zI x2], [zI x], w)) else zEv d m_mo_isWord [zR 112, zI x2] (SH, M, L) (fun x w => zEx (d + 1) m_mo_alike zb0 Q 13 ([zR 112, zI x1, zI x2], [zI x], w))) :
    zEx (d + 1) m_mo_alike zb0 Q 5 ([zR 112, zI x1, zI x2], [zI sx0], SH, M, L) := zEx_run [5, 13, 21, 49, 60, 79] 2 (by decide) (h)
set_option maxRecDepth 20000 in
theorem g_mo_alike_13 {d : Nat} {M L : zM} {Q : Int → zW → Prop} {x1 x2 sx0 : Int} 
    (h : if sx0 = 0 then zEv d m_mo_no [zR 112, zI (-1)] (SH, M, L) (fun x w => zEx (d + 1) m_mo_alike zb0 Q 21 ([zR 112, zI x1, zI x2], [zI x], w)) else zck (0 ≤ x1 ∧ x1 < 5) (zck (0 ≤ x2 ∧ x2 < 5) (if M 115 (Int.toNat x1) = M 115 (Int.toNat x2) then zEv d m_mo_loads [zR 112, zR 128, zI 0, zI x1] (SH, M, L) (fun x w => zEx (d + 1) m_mo_alike zb0 Q 49 ([zR 112, zI x1, zI x2], [zI x], w)) else Q 0 (SH, M, L)))) :
    zEx (d + 1) m_mo_alike zb0 Q 13 ([zR 112, zI x1, zI x2], [zI sx0], SH, M, L) := zEx_run [5, 13, 21, 49, 60, 79] 3 (by decide) (h)
set_option maxRecDepth 20000 in
theorem g_mo_alike_21 {d : Nat} {M L : zM} {Q : Int → zW → Prop} {x1 x2 sx0 : Int} 
    (h : Q sx0 (SH, M, L)) :
    zEx (d + 1) m_mo_alike zb0 Q 21 ([zR 112, zI x1, zI x2], [zI sx0], SH, M, L) := zEx_run [5, 13, 21, 49, 60, 79] 2 (by decide) (h)
set_option maxRecDepth 20000 in
theorem g_mo_alike_49 {d : Nat} {M L : zM} {Q : Int → zW → Prop} {x1 x2 sx0 : Int} 
    (h : zEv d m_mo_loads [zR 112, zR 129, zI 0, zI x2] (SH, M, L) (fun x w => zEx (d + 1) m_mo_alike zb0 Q 60 ([zR 112, zI x1, zI x2], [zI x], w))) :
    zEx (d + 1) m_mo_alike zb0 Q 49 ([zR 112, zI x1, zI x2], [zI sx0], SH, M, L) := zEx_run [5, 13, 21, 49, 60, 79] 2 (by decide) (h)
set_option maxRecDepth 20000 in
theorem g_mo_alike_60 {d : Nat} {M L : zM} {Q : Int → zW → Prop} {x1 x2 sx0 : Int} 
    (h : zck (0 ≤ x1 ∧ x1 < 5) (zEv d m_mo_areAlike [zR 112, zR 128, zR 129, zI (M 115 (Int.toNat x1))] (SH, M, L) (fun x w => zEx (d + 1) m_mo_alike zb0 Q 79 ([zR 112, zI x1, zI x2], [zI x], w)))) :
    zEx (d + 1) m_mo_alike zb0 Q 60 ([zR 112, zI x1, zI x2], [zI sx0], SH, M, L) := zEx_run [5, 13, 21, 49, 60, 79] 2 (by decide) (h)
set_option maxRecDepth 20000 in
theorem g_mo_alike_79 {d : Nat} {M L : zM} {Q : Int → zW → Prop} {x1 x2 sx0 : Int} 
    (h : if sx0 = 0 then Q 0 (SH, M, L) else Q 1 (SH, M, L)) :
    zEx (d + 1) m_mo_alike zb0 Q 79 ([zR 112, zI x1, zI x2], [zI sx0], SH, M, L) := zEx_run [5, 13, 21, 49, 60, 79] 3 (by decide) (h)
set_option maxRecDepth 20000 in
theorem g_mo_block_0 {d : Nat} {M L : zM} {Q : Int → zW → Prop} {x1 : Int} 
    (h : zEx (d + 1) m_mo_block zb0 Q 10 ([zR 112, zI x1, zI 0, zI 0, zI 0, zI 0], [], SH, M, L)) :
    zEx (d + 1) m_mo_block zb0 Q 0 ([zR 112, zI x1, zN, zN, zN, zN], [], SH, M, L) := zEx_run [10, 28, 51] 2 (by decide) (h)
set_option maxRecDepth 20000 in
theorem g_mo_block_10 {d : Nat} {M L : zM} {Q : Int → zW → Prop} {x1 x2 x3 x4 x5 : Int} 
    (h : if x5 < x1 then zEv d m_mo_isReady [zR 112, zR 128, zI x5] (SH, M, L) (fun x w => zEx (d + 1) m_mo_block zb0 Q 28 ([zR 112, zI x1, zI x2, zI x3, zI x4, zI x5], [zI x, zI x4], w)) else zEx (d + 1) m_mo_block zb0 Q 51 ([zR 112, zI x1, zI x2, zI x3, zI x4, zI 0], [], SH, M, L)) :
    zEx (d + 1) m_mo_block zb0 Q 10 ([zR 112, zI x1, zI x2, zI x3, zI x4, zI x5], [], SH, M, L) := zEx_run [10, 28, 51] 3 (by decide) (h)
set_option maxRecDepth 20000 in
theorem g_mo_block_28 {d : Nat} {M L : zM} {Q : Int → zW → Prop} {x1 x2 x3 x4 x5 sx0 sx1 : Int} 
    (h : if sx0 = 0 then zEx (d + 1) m_mo_block zb0 Q 10 ([zR 112, zI x1, zI x2, zI x3, zI (zor sx1 0), zI (zwr (x5 + 1))], [], SH, M, L) else zEx (d + 1) m_mo_block zb0 Q 10 ([zR 112, zI x1, zI x2, zI x3, zI (zor sx1 (zshl 1 x5)), zI (zwr (x5 + 1))], [], SH, M, L)) :
    zEx (d + 1) m_mo_block zb0 Q 28 ([zR 112, zI x1, zI x2, zI x3, zI x4, zI x5], [zI sx0, zI sx1], SH, M, L) := zEx_run [10, 28, 51] 4 (by decide) (h)
set_option maxRecDepth 20000 in
theorem g_mo_block_51 {d : Nat} {M L : zM} {Q : Int → zW → Prop} {x1 x2 x3 x4 x5 : Int} 
    (h : if x5 < x1 then if zand (zshr x4 x5) 1 = 1 then zck (0 ≤ x5 ∧ x5 < 28) (zEx (d + 1) m_mo_block zb0 Q 51 ([zR 112, zI x1, zI (zor x2 (zshl 1 (M 128 (Int.toNat x5)))), zI x3, zI x4, zI (zwr (x5 + 1))], [], SH, M, L)) else zck (0 ≤ x5 ∧ x5 < 28) (zck (0 ≤ x3 ∧ x3 < 28) (zEx (d + 1) m_mo_block zb0 Q 51 ([zR 112, zI x1, zI x2, zI (zwr (x3 + 1)), zI x4, zI (zwr (x5 + 1))], [], SH, (zmu M 128 (Int.toNat x3) (M 128 (Int.toNat x5))), L))) else Q x2 (SH, M, L)) :
    zEx (d + 1) m_mo_block zb0 Q 51 ([zR 112, zI x1, zI x2, zI x3, zI x4, zI x5], [], SH, M, L) := zEx_run [10, 28, 51] 4 (by decide) (h)
set_option maxRecDepth 20000 in
theorem g_mo_blocks_0 {d : Nat} {M L : zM} {Q : Int → zW → Prop} {x1 x2 : Int} 
    (h : zEv d m_mo_isWord [zR 112, zI x1] (SH, M, L) (fun x w => zEx (d + 1) m_mo_blocks zb0 Q 5 ([zR 112, zI x1, zI x2, zN, zN, zN, zN], [zI x], w))) :
    zEx (d + 1) m_mo_blocks zb0 Q 0 ([zR 112, zI x1, zI x2, zN, zN, zN, zN], [], SH, M, L) := zEx_run [5, 13, 25, 36, 40, 49, 66] 2 (by decide) (h)
set_option maxRecDepth 20000 in
theorem g_mo_blocks_5 {d : Nat} {M L : zM} {Q : Int → zW → Prop} {x1 x2 sx0 : Int} 
    (h : if sx0 = 0 then zEv d m_mo_no [zR 112, zI (-1)] (SH, M, L) (fun x w => zEx (d + 1) m_mo_blocks zb0 Q 13 ([zR 112, zI x1, zI x2, zN, zN, zN, zN], [zI x], w)) else if x2 < (-1) then zEv d m_mo_no [zR 112, zI (-4)] (SH, M, L) (fun x w => zEx (d + 1) m_mo_blocks zb0 Q 25 ([zR 112, zI x1, zI x2, zN, zN, zN, zN], [zI x], w)) else zEv d m_mo_loads [zR 112, zR 128, zI 0, zI x1] (SH, M, L) (fun x w => zEx (d + 1) m_mo_blocks zb0 Q 36 ([zR 112, zI x1, zI x2, zN, zN, zN, zN], [zI x], w))) :
    zEx (d + 1) m_mo_blocks zb0 Q 5 ([zR 112, zI x1, zI x2, zN, zN, zN, zN], [zI sx0], SH, M, L) := zEx_run [5, 13, 25, 36, 40, 49, 66] 3 (by decide) (h)
set_option maxRecDepth 20000 in
theorem g_mo_blocks_13 {d : Nat} {M L : zM} {Q : Int → zW → Prop} {x1 x2 sx0 : Int} 
    (h : Q sx0 (SH, M, L)) :
    zEx (d + 1) m_mo_blocks zb0 Q 13 ([zR 112, zI x1, zI x2, zN, zN, zN, zN], [zI sx0], SH, M, L) := zEx_run [5, 13, 25, 36, 40, 49, 66] 2 (by decide) (h)
set_option maxRecDepth 20000 in
theorem g_mo_blocks_25 {d : Nat} {M L : zM} {Q : Int → zW → Prop} {x1 x2 sx0 : Int} 
    (h : Q sx0 (SH, M, L)) :
    zEx (d + 1) m_mo_blocks zb0 Q 25 ([zR 112, zI x1, zI x2, zN, zN, zN, zN], [zI sx0], SH, M, L) := zEx_run [5, 13, 25, 36, 40, 49, 66] 2 (by decide) (h)
set_option maxRecDepth 20000 in
theorem g_mo_blocks_36 {d : Nat} {M L : zM} {Q : Int → zW → Prop} {x1 x2 sx0 : Int} 
    (h : zEx (d + 1) m_mo_blocks zb0 Q 40 ([zR 112, zI x1, zI x2, zI sx0, zI 0, zN, zN], [], SH, M, L)) :
    zEx (d + 1) m_mo_blocks zb0 Q 36 ([zR 112, zI x1, zI x2, zN, zN, zN, zN], [zI sx0], SH, M, L) := zEx_run [5, 13, 25, 36, 40, 49, 66] 2 (by decide) (h)
set_option maxRecDepth 20000 in
theorem g_mo_blocks_40 {d : Nat} {M L : zM} {Q : Int → zW → Prop} {x1 x2 x3 x4 : Int} {v5 v6 : zV} 
    (h : if 0 < x3 then zEv d m_mo_block [zR 112, zI x3] (SH, M, L) (fun x w => zEx (d + 1) m_mo_blocks zb0 Q 49 ([zR 112, zI x1, zI x2, zI x3, zI x4, v5, v6], [zI x], w)) else if x2 = (-1) then Q x4 (SH, M, L) else Q 0 (SH, M, L)) :
    zEx (d + 1) m_mo_blocks zb0 Q 40 ([zR 112, zI x1, zI x2, zI x3, zI x4, v5, v6], [], SH, M, L) := zEx_run [5, 13, 25, 36, 40, 49, 66] 4 (by decide) (h)
set_option maxRecDepth 20000 in
theorem g_mo_blocks_49 {d : Nat} {M L : zM} {Q : Int → zW → Prop} {x1 x2 x3 x4 sx0 : Int} {v5 v6 : zV} 
    (h : if x4 = x2 then Q sx0 (SH, M, L) else zEx (d + 1) m_mo_blocks zb0 Q 66 ([zR 112, zI x1, zI x2, zI x3, zI (zwr (x4 + 1)), zI sx0, zI 0], [], SH, M, L)) :
    zEx (d + 1) m_mo_blocks zb0 Q 49 ([zR 112, zI x1, zI x2, zI x3, zI x4, v5, v6], [zI sx0], SH, M, L) := zEx_run [5, 13, 25, 36, 40, 49, 66] 3 (by decide) (h)
set_option maxRecDepth 20000 in
theorem g_mo_blocks_66 {d : Nat} {M L : zM} {Q : Int → zW → Prop} {x1 x2 x3 x4 x5 x6 : Int} 
    (h : if x6 < 6 then zEx (d + 1) m_mo_blocks zb0 Q 66 ([zR 112, zI x1, zI x2, zI (zwr (x3 - (zand (zshr x5 x6) 1))), zI x4, zI x5, zI (zwr (x6 + 1))], [], SH, M, L) else zEx (d + 1) m_mo_blocks zb0 Q 40 ([zR 112, zI x1, zI x2, zI x3, zI x4, zI x5, zI x6], [], SH, M, L)) :
    zEx (d + 1) m_mo_blocks zb0 Q 66 ([zR 112, zI x1, zI x2, zI x3, zI x4, zI x5, zI x6], [], SH, M, L) := zEx_run [5, 13, 25, 36, 40, 49, 66] 3 (by decide) (h)
set_option maxRecDepth 20000 in
theorem g_mo_least_0 {d : Nat} {M L : zM} {Q : Int → zW → Prop} {x1 x2 x3 : Int} 
    (h : zEv d m_mo_isWord [zR 112, zI x1] (SH, M, L) (fun x w => zEx (d + 1) m_mo_least zb0 Q 5 ([zR 112, zI x1, zI x2, zI x3, zN], [zI x], w))) :
    zEx (d + 1) m_mo_least zb0 Q 0 ([zR 112, zI x1, zI x2, zI x3, zN], [], SH, M, L) := zEx_run [5, 13, 24, 31, 40, 51, 77] 2 (by decide) (h)
set_option maxRecDepth 20000 in
theorem g_mo_least_5 {d : Nat} {M L : zM} {Q : Int → zW → Prop} {x1 x2 x3 sx0 : Int} 
    (h : if sx0 = 0 then zEv d m_mo_no [zR 112, zI (-1)] (SH, M, L) (fun x w => zEx (d + 1) m_mo_least zb0 Q 13 ([zR 112, zI x1, zI x2, zI x3, zN], [zI x], w)) else if x2 < 0 then zEv d m_mo_no [zR 112, zI (-4)] (SH, M, L) (fun x w => zEx (d + 1) m_mo_least zb0 Q 24 ([zR 112, zI x1, zI x2, zI x3, zN], [zI x], w)) else zEv d m_mo_isIn [zI x3, zI 0, zI 1] (SH, M, L) (fun x w => zEx (d + 1) m_mo_least zb0 Q 31 ([zR 112, zI x1, zI x2, zI x3, zN], [zI x], w))) :
    zEx (d + 1) m_mo_least zb0 Q 5 ([zR 112, zI x1, zI x2, zI x3, zN], [zI sx0], SH, M, L) := zEx_run [5, 13, 24, 31, 40, 51, 77] 3 (by decide) (h)
set_option maxRecDepth 20000 in
theorem g_mo_least_13 {d : Nat} {M L : zM} {Q : Int → zW → Prop} {x1 x2 x3 sx0 : Int} 
    (h : Q sx0 (SH, M, L)) :
    zEx (d + 1) m_mo_least zb0 Q 13 ([zR 112, zI x1, zI x2, zI x3, zN], [zI sx0], SH, M, L) := zEx_run [5, 13, 24, 31, 40, 51, 77] 2 (by decide) (h)
set_option maxRecDepth 20000 in
theorem g_mo_least_24 {d : Nat} {M L : zM} {Q : Int → zW → Prop} {x1 x2 x3 sx0 : Int} 
    (h : Q sx0 (SH, M, L)) :
    zEx (d + 1) m_mo_least zb0 Q 24 ([zR 112, zI x1, zI x2, zI x3, zN], [zI sx0], SH, M, L) := zEx_run [5, 13, 24, 31, 40, 51, 77] 2 (by decide) (h)
set_option maxRecDepth 20000 in
theorem g_mo_least_31 {d : Nat} {M L : zM} {Q : Int → zW → Prop} {x1 x2 x3 sx0 : Int} 
    (h : if sx0 = 0 then zEv d m_mo_no [zR 112, zI (-2)] (SH, M, L) (fun x w => zEx (d + 1) m_mo_least zb0 Q 40 ([zR 112, zI x1, zI x2, zI x3, zN], [zI x], w)) else zEv d m_mo_loads [zR 112, zR 128, zI 0, zI x1] (SH, M, L) (fun x w => zEx (d + 1) m_mo_least zb0 Q 51 ([zR 112, zI x1, zI x2, zI x3, zN], [zI x], w))) :
    zEx (d + 1) m_mo_least zb0 Q 31 ([zR 112, zI x1, zI x2, zI x3, zN], [zI sx0], SH, M, L) := zEx_run [5, 13, 24, 31, 40, 51, 77] 2 (by decide) (h)
set_option maxRecDepth 20000 in
theorem g_mo_least_40 {d : Nat} {M L : zM} {Q : Int → zW → Prop} {x1 x2 x3 sx0 : Int} 
    (h : Q sx0 (SH, M, L)) :
    zEx (d + 1) m_mo_least zb0 Q 40 ([zR 112, zI x1, zI x2, zI x3, zN], [zI sx0], SH, M, L) := zEx_run [5, 13, 24, 31, 40, 51, 77] 2 (by decide) (h)
set_option maxRecDepth 20000 in
theorem g_mo_least_51 {d : Nat} {M L : zM} {Q : Int → zW → Prop} {x1 x2 x3 sx0 : Int} 
    (h : if x3 = 1 then zEv d m_mo_takes [zR 112, zR 128, zI sx0, zR 131, zI 1] (SH, M, L) (fun _ w => zEx (d + 1) m_mo_least zb0 Q 77 ([zR 112, zI x1, zI x2, zI x3, zI sx0], [], w)) else zEv d m_mo_takes [zR 112, zR 128, zI sx0, zR 131, zI 0] (SH, M, L) (fun _ w => zEx (d + 1) m_mo_least zb0 Q 77 ([zR 112, zI x1, zI x2, zI x3, zI sx0], [], w))) :
    zEx (d + 1) m_mo_least zb0 Q 51 ([zR 112, zI x1, zI x2, zI x3, zN], [zI sx0], SH, M, L) := zEx_run [5, 13, 24, 31, 40, 51, 77] 3 (by decide) (h)
set_option maxRecDepth 20000 in
theorem g_mo_least_77 {d : Nat} {M L : zM} {Q : Int → zW → Prop} {x1 x2 x3 x4 : Int} 
    (h : if x2 < x4 then zck (0 ≤ x2 ∧ x2 < 28) (Q (M 131 (Int.toNat x2)) (SH, M, L)) else Q (-9) (SH, M, L)) :
    zEx (d + 1) m_mo_least zb0 Q 77 ([zR 112, zI x1, zI x2, zI x3, zI x4], [], SH, M, L) := zEx_run [5, 13, 24, 31, 40, 51, 77] 3 (by decide) (h)
set_option maxRecDepth 20000 in
theorem g_mo_orders_0 {d : Nat} {M L : zM} {Q : Int → zW → Prop} {x1 : Int} 
    (h : zEx (d + 1) m_mo_orders zb0 Q 2 ([zR 112, zI x1, zI 0, zN], [], SH, M, L)) :
    zEx (d + 1) m_mo_orders zb0 Q 0 ([zR 112, zI x1, zN, zN], [], SH, M, L) := zEx_run [2, 16, 44, 76] 2 (by decide) (h)
set_option maxRecDepth 20000 in
theorem g_mo_orders_2 {d : Nat} {M L : zM} {Q : Int → zW → Prop} {x1 x2 : Int} {v3 : zV} 
    (h : if x2 < x1 then zck (0 ≤ x2 ∧ x2 < 14) (zEx (d + 1) m_mo_orders zb0 Q 16 ([zR 112, zI x1, zI x2, zI 0], [], SH, (zmu M 133 (Int.toNat x2) 0), L)) else Q 0 (SH, M, L)) :
    zEx (d + 1) m_mo_orders zb0 Q 2 ([zR 112, zI x1, zI x2, v3], [], SH, M, L) := zEx_run [2, 16, 44, 76] 2 (by decide) (h)
set_option maxRecDepth 20000 in
theorem g_mo_orders_16 {d : Nat} {M L : zM} {Q : Int → zW → Prop} {x1 x2 x3 : Int} 
    (h : if x3 < x2 then zck (0 ≤ x2 ∧ x2 < 14) (zck (0 ≤ x2 ∧ x2 < 28) (zck (0 ≤ x3 ∧ x3 < 28) (zEv d m_mo_passes_ [zR 112, zI (M 128 (Int.toNat x2)), zI (M 128 (Int.toNat x3))] (SH, M, L) (fun x w => zEx (d + 1) m_mo_orders zb0 Q 44 ([zR 112, zI x1, zI x2, zI x3], [zI x, zI (M 133 (Int.toNat x2)), zI x2, zR 133], w))))) else zck (0 ≤ x2 ∧ x2 < 14) (zck (0 ≤ x2 ∧ x2 < 14) (zEx (d + 1) m_mo_orders zb0 Q 76 ([zR 112, zI x1, zI x2, zI 0], [], SH, (zmu M 134 (Int.toNat x2) (M 133 (Int.toNat x2))), L)))) :
    zEx (d + 1) m_mo_orders zb0 Q 16 ([zR 112, zI x1, zI x2, zI x3], [], SH, M, L) := zEx_run [2, 16, 44, 76] 3 (by decide) (h)
set_option maxRecDepth 20000 in
theorem g_mo_orders_44 {d : Nat} {M L : zM} {Q : Int → zW → Prop} {x1 x2 x3 sx0 sx1 sx2 : Int} 
    (h : if sx0 = 0 then zck (0 ≤ sx2 ∧ sx2 < 14) (zEx (d + 1) m_mo_orders zb0 Q 16 ([zR 112, zI x1, zI x2, zI (zwr (x3 + 1))], [], SH, (zmu M 133 (Int.toNat sx2) (zor sx1 (zshl 1 x3))), L)) else zck (0 ≤ sx2 ∧ sx2 < 14) (zEx (d + 1) m_mo_orders zb0 Q 16 ([zR 112, zI x1, zI x2, zI (zwr (x3 + 1))], [], SH, (zmu M 133 (Int.toNat sx2) (zor sx1 0)), L))) :
    zEx (d + 1) m_mo_orders zb0 Q 44 ([zR 112, zI x1, zI x2, zI x3], [zI sx0, zI sx1, zI sx2, zR 133], SH, M, L) := zEx_run [2, 16, 44, 76] 4 (by decide) (h)
set_option maxRecDepth 20000 in
theorem g_mo_orders_76 {d : Nat} {M L : zM} {Q : Int → zW → Prop} {x1 x2 x3 : Int} 
    (h : if x3 < x2 then zck (0 ≤ x2 ∧ x2 < 14) (zck (0 ≤ x2 ∧ x2 < 14) (if zand (zshr (M 133 (Int.toNat x2)) x3) 1 = 1 then zck (0 ≤ x3 ∧ x3 < 14) (zck (0 ≤ x2 ∧ x2 < 14) (zEx (d + 1) m_mo_orders zb0 Q 76 ([zR 112, zI x1, zI x2, zI (zwr (x3 + 1))], [], SH, (zmu M 134 (Int.toNat x2) (zor (M 134 (Int.toNat x2)) (M 134 (Int.toNat x3)))), L))) else zck (0 ≤ x2 ∧ x2 < 14) (zEx (d + 1) m_mo_orders zb0 Q 76 ([zR 112, zI x1, zI x2, zI (zwr (x3 + 1))], [], SH, (zmu M 134 (Int.toNat x2) (zor (M 134 (Int.toNat x2)) 0)), L)))) else zEx (d + 1) m_mo_orders zb0 Q 2 ([zR 112, zI x1, zI (zwr (x2 + 1)), zI x3], [], SH, M, L)) :
    zEx (d + 1) m_mo_orders zb0 Q 76 ([zR 112, zI x1, zI x2, zI x3], [], SH, M, L) := zEx_run [2, 16, 44, 76] 4 (by decide) (h)
set_option maxRecDepth 20000 in
theorem g_mo_copies_0 {d : Nat} {M L : zM} {Q : Int → zW → Prop} {x1 : Int} 
    (h : zEv d m_mo_isWord [zR 112, zI x1] (SH, M, L) (fun x w => zEx (d + 1) m_mo_copies zb0 Q 5 ([zR 112, zI x1, zN, zN, zN], [zI x], w))) :
    zEx (d + 1) m_mo_copies zb0 Q 0 ([zR 112, zI x1, zN, zN, zN], [], SH, M, L) := zEx_run [5, 13, 24, 30, 32, 62, 72] 2 (by decide) (h)
set_option maxRecDepth 20000 in
theorem g_mo_copies_5 {d : Nat} {M L : zM} {Q : Int → zW → Prop} {x1 sx0 : Int} 
    (h : if sx0 = 0 then zEv d m_mo_noLong [zR 112, zI (-1)] (SH, M, L) (fun x w => zEx (d + 1) m_mo_copies zb0 Q 13 ([zR 112, zI x1, zN, zN, zN], [zL x], w)) else zEv d m_mo_loads [zR 112, zR 128, zI 0, zI x1] (SH, M, L) (fun x w => zEx (d + 1) m_mo_copies zb0 Q 24 ([zR 112, zI x1, zN, zN, zN], [zI x], w))) :
    zEx (d + 1) m_mo_copies zb0 Q 5 ([zR 112, zI x1, zN, zN, zN], [zI sx0], SH, M, L) := zEx_run [5, 13, 24, 30, 32, 62, 72] 2 (by decide) (h)
set_option maxRecDepth 20000 in
theorem g_mo_copies_13 {d : Nat} {M L : zM} {Q : Int → zW → Prop} {x1 sy0 : Int} 
    (h : Q sy0 (SH, M, L)) :
    zEx (d + 1) m_mo_copies zb0 Q 13 ([zR 112, zI x1, zN, zN, zN], [zL sy0], SH, M, L) := zEx_run [5, 13, 24, 30, 32, 62, 72] 2 (by decide) (h)
set_option maxRecDepth 20000 in
theorem g_mo_copies_24 {d : Nat} {M L : zM} {Q : Int → zW → Prop} {x1 sx0 : Int} 
    (h : zEv d m_mo_orders [zR 112, zI sx0] (SH, M, L) (fun _ w => zEx (d + 1) m_mo_copies zb0 Q 30 ([zR 112, zI x1, zI sx0, zN, zN], [], w))) :
    zEx (d + 1) m_mo_copies zb0 Q 24 ([zR 112, zI x1, zN, zN, zN], [zI sx0], SH, M, L) := zEx_run [5, 13, 24, 30, 32, 62, 72] 2 (by decide) (h)
set_option maxRecDepth 20000 in
theorem g_mo_copies_30 {d : Nat} {M L : zM} {Q : Int → zW → Prop} {x1 x2 : Int} 
    (h : zEx (d + 1) m_mo_copies zb0 Q 32 ([zR 112, zI x1, zI x2, zI 0, zN], [], SH, M, L)) :
    zEx (d + 1) m_mo_copies zb0 Q 30 ([zR 112, zI x1, zI x2, zN, zN], [], SH, M, L) := zEx_run [5, 13, 24, 30, 32, 62, 72] 2 (by decide) (h)
set_option maxRecDepth 20000 in
theorem g_mo_copies_32 {d : Nat} {M L : zM} {Q : Int → zW → Prop} {x1 x2 x3 : Int} 
    (h : if x3 < zshl 1 x2 then if x3 = 0 then zck (0 ≤ x3 ∧ x3 < 16384) (zEx (d + 1) m_mo_copies zb0 Q 32 ([zR 112, zI x1, zI x2, zI (zwr (x3 + 1)), zN], [], SH, M, (zmu L 135 (Int.toNat x3) 1))) else zck (0 ≤ x3 ∧ x3 < 16384) (zEx (d + 1) m_mo_copies zb0 Q 32 ([zR 112, zI x1, zI x2, zI (zwr (x3 + 1)), zN], [], SH, M, (zmu L 135 (Int.toNat x3) 0))) else zEx (d + 1) m_mo_copies zb0 Q 62 ([zR 112, zI x1, zI x2, zI 0, zN], [], SH, M, L)) :
    zEx (d + 1) m_mo_copies zb0 Q 32 ([zR 112, zI x1, zI x2, zI x3, zN], [], SH, M, L) := zEx_run [5, 13, 24, 30, 32, 62, 72] 4 (by decide) (h)
set_option maxRecDepth 20000 in
theorem g_mo_copies_62 {d : Nat} {M L : zM} {Q : Int → zW → Prop} {x1 x2 x3 : Int} {v4 : zV} 
    (h : if x3 < zshl 1 x2 then zEx (d + 1) m_mo_copies zb0 Q 72 ([zR 112, zI x1, zI x2, zI x3, zI 0], [], SH, M, L) else zck (0 ≤ zwr ((zshl 1 x2) - 1) ∧ zwr ((zshl 1 x2) - 1) < 16384) (Q (L 135 (Int.toNat (zwr ((zshl 1 x2) - 1)))) (SH, M, L))) :
    zEx (d + 1) m_mo_copies zb0 Q 62 ([zR 112, zI x1, zI x2, zI x3, v4], [], SH, M, L) := zEx_run [5, 13, 24, 30, 32, 62, 72] 2 (by decide) (h)
set_option maxRecDepth 20000 in
theorem g_mo_copies_72 {d : Nat} {M L : zM} {Q : Int → zW → Prop} {x1 x2 x3 x4 : Int} 
    (h : if x4 < x2 then zck (0 ≤ x3 ∧ x3 < 16384) (if 0 < zcmp (L 135 (Int.toNat x3)) 0 then if zand (zshr x3 x4) 1 = 0 then zck (0 ≤ x4 ∧ x4 < 14) (if zand (M 133 (Int.toNat x4)) (zxor x3 (-1)) = 0 then zck (0 ≤ zor x3 (zshl 1 x4) ∧ zor x3 (zshl 1 x4) < 16384) (zck (0 ≤ x3 ∧ x3 < 16384) (zck (0 ≤ zor x3 (zshl 1 x4) ∧ zor x3 (zshl 1 x4) < 16384) (zEx (d + 1) m_mo_copies zb0 Q 72 ([zR 112, zI x1, zI x2, zI x3, zI (zwr (x4 + 1))], [], SH, M, (zmu L 135 (Int.toNat (zor x3 (zshl 1 x4))) (zwl ((L 135 (Int.toNat (zor x3 (zshl 1 x4)))) + (L 135 (Int.toNat x3))))))))) else zEx (d + 1) m_mo_copies zb0 Q 72 ([zR 112, zI x1, zI x2, zI x3, zI (zwr (x4 + 1))], [], SH, M, L)) else zEx (d + 1) m_mo_copies zb0 Q 72 ([zR 112, zI x1, zI x2, zI x3, zI (zwr (x4 + 1))], [], SH, M, L) else zEx (d + 1) m_mo_copies zb0 Q 62 ([zR 112, zI x1, zI x2, zI (zwr (x3 + 1)), zI x4], [], SH, M, L)) else zEx (d + 1) m_mo_copies zb0 Q 62 ([zR 112, zI x1, zI x2, zI (zwr (x3 + 1)), zI x4], [], SH, M, L)) :
    zEx (d + 1) m_mo_copies zb0 Q 72 ([zR 112, zI x1, zI x2, zI x3, zI x4], [], SH, M, L) := zEx_run [5, 13, 24, 30, 32, 62, 72] 3 (by decide) (h)
set_option maxRecDepth 20000 in
theorem g_mo_seen_0 {d : Nat} {M L : zM} {Q : Int → zW → Prop} {x1 x2 x3 x4 : Int} 
    (h : zEv d m_mo_isWord [zR 112, zI x1] (SH, M, L) (fun x w => zEx (d + 1) m_mo_seen zb0 Q 5 ([zR 112, zI x1, zI x2, zI x3, zI x4, zN, zN, zN], [zI x], w))) :
    zEx (d + 1) m_mo_seen zb0 Q 0 ([zR 112, zI x1, zI x2, zI x3, zI x4, zN, zN, zN], [], SH, M, L) := zEx_run [5, 12, 19, 27, 39, 46] 2 (by decide) (h)
set_option maxRecDepth 20000 in
theorem g_mo_seen_5 {d : Nat} {M L : zM} {Q : Int → zW → Prop} {x1 x2 x3 x4 sx0 : Int} 
    (h : if sx0 = 0 then zEv d m_mo_no [zR 112, zI (-1)] (SH, M, L) (fun x w => zEx (d + 1) m_mo_seen zb0 Q 27 ([zR 112, zI x1, zI x2, zI x3, zI x4, zN, zN, zN], [zI x], w)) else zEv d m_mo_isLetter [zI x2] (SH, M, L) (fun x w => zEx (d + 1) m_mo_seen zb0 Q 12 ([zR 112, zI x1, zI x2, zI x3, zI x4, zN, zN, zN], [zI x], w))) :
    zEx (d + 1) m_mo_seen zb0 Q 5 ([zR 112, zI x1, zI x2, zI x3, zI x4, zN, zN, zN], [zI sx0], SH, M, L) := zEx_run [5, 12, 19, 27, 39, 46] 2 (by decide) (h)
set_option maxRecDepth 20000 in
theorem g_mo_seen_12 {d : Nat} {M L : zM} {Q : Int → zW → Prop} {x1 x2 x3 x4 sx0 : Int} 
    (h : if sx0 = 0 then zEv d m_mo_no [zR 112, zI (-1)] (SH, M, L) (fun x w => zEx (d + 1) m_mo_seen zb0 Q 27 ([zR 112, zI x1, zI x2, zI x3, zI x4, zN, zN, zN], [zI x], w)) else zEv d m_mo_isLetter [zI x3] (SH, M, L) (fun x w => zEx (d + 1) m_mo_seen zb0 Q 19 ([zR 112, zI x1, zI x2, zI x3, zI x4, zN, zN, zN], [zI x], w))) :
    zEx (d + 1) m_mo_seen zb0 Q 12 ([zR 112, zI x1, zI x2, zI x3, zI x4, zN, zN, zN], [zI sx0], SH, M, L) := zEx_run [5, 12, 19, 27, 39, 46] 2 (by decide) (h)
set_option maxRecDepth 20000 in
theorem g_mo_seen_19 {d : Nat} {M L : zM} {Q : Int → zW → Prop} {x1 x2 x3 x4 sx0 : Int} 
    (h : if sx0 = 0 then zEv d m_mo_no [zR 112, zI (-1)] (SH, M, L) (fun x w => zEx (d + 1) m_mo_seen zb0 Q 27 ([zR 112, zI x1, zI x2, zI x3, zI x4, zN, zN, zN], [zI x], w)) else if x4 < 0 then zEv d m_mo_no [zR 112, zI (-4)] (SH, M, L) (fun x w => zEx (d + 1) m_mo_seen zb0 Q 39 ([zR 112, zI x1, zI x2, zI x3, zI x4, zN, zN, zN], [zI x], w)) else zEx (d + 1) m_mo_seen zb0 Q 46 ([zR 112, zI x1, zI x2, zI x3, zI x4, zI 0, zI 0, zN], [], SH, M, L)) :
    zEx (d + 1) m_mo_seen zb0 Q 19 ([zR 112, zI x1, zI x2, zI x3, zI x4, zN, zN, zN], [zI sx0], SH, M, L) := zEx_run [5, 12, 19, 27, 39, 46] 4 (by decide) (h)
set_option maxRecDepth 20000 in
theorem g_mo_seen_27 {d : Nat} {M L : zM} {Q : Int → zW → Prop} {x1 x2 x3 x4 sx0 : Int} 
    (h : Q sx0 (SH, M, L)) :
    zEx (d + 1) m_mo_seen zb0 Q 27 ([zR 112, zI x1, zI x2, zI x3, zI x4, zN, zN, zN], [zI sx0], SH, M, L) := zEx_run [5, 12, 19, 27, 39, 46] 2 (by decide) (h)
set_option maxRecDepth 20000 in
theorem g_mo_seen_39 {d : Nat} {M L : zM} {Q : Int → zW → Prop} {x1 x2 x3 x4 sx0 : Int} 
    (h : Q sx0 (SH, M, L)) :
    zEx (d + 1) m_mo_seen zb0 Q 39 ([zR 112, zI x1, zI x2, zI x3, zI x4, zN, zN, zN], [zI sx0], SH, M, L) := zEx_run [5, 12, 19, 27, 39, 46] 2 (by decide) (h)
set_option maxRecDepth 20000 in
theorem g_mo_seen_46 {d : Nat} {M L : zM} {Q : Int → zW → Prop} {x1 x2 x3 x4 x5 x6 : Int} {v7 : zV} 
    (h : zck (0 ≤ x1 ∧ x1 < 5) (if x6 < M 115 (Int.toNat x1) then zck (0 ≤ zwr ((zwr (14 * x1)) + x6) ∧ zwr ((zwr (14 * x1)) + x6) < 70) (if M 116 (Int.toNat (zwr ((zwr (14 * x1)) + x6))) = x2 then if x5 = x4 then Q (M 116 (Int.toNat (zwr ((zwr (14 * x1)) + x6)))) (SH, M, L) else zEx (d + 1) m_mo_seen zb0 Q 46 ([zR 112, zI x1, zI x2, zI x3, zI x4, zI (zwr (x5 + 1)), zI (zwr (x6 + 1)), zI (M 116 (Int.toNat (zwr ((zwr (14 * x1)) + x6))))], [], SH, M, L) else if M 116 (Int.toNat (zwr ((zwr (14 * x1)) + x6))) = x3 then if x5 = x4 then Q (M 116 (Int.toNat (zwr ((zwr (14 * x1)) + x6)))) (SH, M, L) else zEx (d + 1) m_mo_seen zb0 Q 46 ([zR 112, zI x1, zI x2, zI x3, zI x4, zI (zwr (x5 + 1)), zI (zwr (x6 + 1)), zI (M 116 (Int.toNat (zwr ((zwr (14 * x1)) + x6))))], [], SH, M, L) else zEx (d + 1) m_mo_seen zb0 Q 46 ([zR 112, zI x1, zI x2, zI x3, zI x4, zI x5, zI (zwr (x6 + 1)), zI (M 116 (Int.toNat (zwr ((zwr (14 * x1)) + x6))))], [], SH, M, L)) else Q (-9) (SH, M, L))) :
    zEx (d + 1) m_mo_seen zb0 Q 46 ([zR 112, zI x1, zI x2, zI x3, zI x4, zI x5, zI x6, v7], [], SH, M, L) := zEx_run [5, 12, 19, 27, 39, 46] 5 (by decide) (h)
set_option maxRecDepth 20000 in
theorem g_mo_spread_0 {d : Nat} {M L : zM} {Q : Int → zW → Prop} {x1 x2 x3 x4 : Int} 
    (h : zEv d m_mo_isWord [zR 112, zI x1] (SH, M, L) (fun x w => zEx (d + 1) m_mo_spread zb0 Q 5 ([zR 112, zI x1, zI x2, zI x3, zI x4, zN, zN, zN, zN, zN], [zI x], w))) :
    zEx (d + 1) m_mo_spread zb0 Q 0 ([zR 112, zI x1, zI x2, zI x3, zI x4, zN, zN, zN, zN, zN], [], SH, M, L) := zEx_run [5, 12, 20, 31, 39, 48, 59, 67, 73, 152] 2 (by decide) (h)
set_option maxRecDepth 20000 in
theorem g_mo_spread_5 {d : Nat} {M L : zM} {Q : Int → zW → Prop} {x1 x2 x3 x4 sx0 : Int} 
    (h : if sx0 = 0 then zEv d m_mo_no [zR 112, zI (-1)] (SH, M, L) (fun x w => zEx (d + 1) m_mo_spread zb0 Q 20 ([zR 112, zI x1, zI x2, zI x3, zI x4, zN, zN, zN, zN, zN], [zI x], w)) else zEv d m_mo_isLetter [zI x2] (SH, M, L) (fun x w => zEx (d + 1) m_mo_spread zb0 Q 12 ([zR 112, zI x1, zI x2, zI x3, zI x4, zN, zN, zN, zN, zN], [zI x], w))) :
    zEx (d + 1) m_mo_spread zb0 Q 5 ([zR 112, zI x1, zI x2, zI x3, zI x4, zN, zN, zN, zN, zN], [zI sx0], SH, M, L) := zEx_run [5, 12, 20, 31, 39, 48, 59, 67, 73, 152] 2 (by decide) (h)
set_option maxRecDepth 20000 in
theorem g_mo_spread_12 {d : Nat} {M L : zM} {Q : Int → zW → Prop} {x1 x2 x3 x4 sx0 : Int} 
    (h : if sx0 = 0 then zEv d m_mo_no [zR 112, zI (-1)] (SH, M, L) (fun x w => zEx (d + 1) m_mo_spread zb0 Q 20 ([zR 112, zI x1, zI x2, zI x3, zI x4, zN, zN, zN, zN, zN], [zI x], w)) else if x3 < 0 then zEv d m_mo_no [zR 112, zI (-4)] (SH, M, L) (fun x w => zEx (d + 1) m_mo_spread zb0 Q 31 ([zR 112, zI x1, zI x2, zI x3, zI x4, zN, zN, zN, zN, zN], [zI x], w)) else zEv d m_mo_isIn [zI x4, zI 0, zI 1] (SH, M, L) (fun x w => zEx (d + 1) m_mo_spread zb0 Q 39 ([zR 112, zI x1, zI x2, zI x3, zI x4, zN, zN, zN, zN, zN], [zI x], w))) :
    zEx (d + 1) m_mo_spread zb0 Q 12 ([zR 112, zI x1, zI x2, zI x3, zI x4, zN, zN, zN, zN, zN], [zI sx0], SH, M, L) := zEx_run [5, 12, 20, 31, 39, 48, 59, 67, 73, 152] 3 (by decide) (h)
set_option maxRecDepth 20000 in
theorem g_mo_spread_20 {d : Nat} {M L : zM} {Q : Int → zW → Prop} {x1 x2 x3 x4 sx0 : Int} 
    (h : Q sx0 (SH, M, L)) :
    zEx (d + 1) m_mo_spread zb0 Q 20 ([zR 112, zI x1, zI x2, zI x3, zI x4, zN, zN, zN, zN, zN], [zI sx0], SH, M, L) := zEx_run [5, 12, 20, 31, 39, 48, 59, 67, 73, 152] 2 (by decide) (h)
set_option maxRecDepth 20000 in
theorem g_mo_spread_31 {d : Nat} {M L : zM} {Q : Int → zW → Prop} {x1 x2 x3 x4 sx0 : Int} 
    (h : Q sx0 (SH, M, L)) :
    zEx (d + 1) m_mo_spread zb0 Q 31 ([zR 112, zI x1, zI x2, zI x3, zI x4, zN, zN, zN, zN, zN], [zI sx0], SH, M, L) := zEx_run [5, 12, 20, 31, 39, 48, 59, 67, 73, 152] 2 (by decide) (h)
set_option maxRecDepth 20000 in
theorem g_mo_spread_39 {d : Nat} {M L : zM} {Q : Int → zW → Prop} {x1 x2 x3 x4 sx0 : Int} 
    (h : if sx0 = 0 then zEv d m_mo_no [zR 112, zI (-2)] (SH, M, L) (fun x w => zEx (d + 1) m_mo_spread zb0 Q 48 ([zR 112, zI x1, zI x2, zI x3, zI x4, zN, zN, zN, zN, zN], [zI x], w)) else zEv d m_mo_loads [zR 112, zR 128, zI 0, zI x1] (SH, M, L) (fun x w => zEx (d + 1) m_mo_spread zb0 Q 59 ([zR 112, zI x1, zI x2, zI x3, zI x4, zN, zN, zN, zN, zN], [zI x], w))) :
    zEx (d + 1) m_mo_spread zb0 Q 39 ([zR 112, zI x1, zI x2, zI x3, zI x4, zN, zN, zN, zN, zN], [zI sx0], SH, M, L) := zEx_run [5, 12, 20, 31, 39, 48, 59, 67, 73, 152] 2 (by decide) (h)
set_option maxRecDepth 20000 in
theorem g_mo_spread_48 {d : Nat} {M L : zM} {Q : Int → zW → Prop} {x1 x2 x3 x4 sx0 : Int} 
    (h : Q sx0 (SH, M, L)) :
    zEx (d + 1) m_mo_spread zb0 Q 48 ([zR 112, zI x1, zI x2, zI x3, zI x4, zN, zN, zN, zN, zN], [zI sx0], SH, M, L) := zEx_run [5, 12, 20, 31, 39, 48, 59, 67, 73, 152] 2 (by decide) (h)
set_option maxRecDepth 20000 in
theorem g_mo_spread_59 {d : Nat} {M L : zM} {Q : Int → zW → Prop} {x1 x2 x3 x4 sx0 : Int} 
    (h : zEv d m_mo_orders [zR 112, zI sx0] (SH, M, L) (fun _ w => zEx (d + 1) m_mo_spread zb0 Q 67 ([zR 112, zI x1, zI x2, zI x3, zI x4, zI sx0, zN, zN, zN, zN], [], w))) :
    zEx (d + 1) m_mo_spread zb0 Q 59 ([zR 112, zI x1, zI x2, zI x3, zI x4, zN, zN, zN, zN, zN], [zI sx0], SH, M, L) := zEx_run [5, 12, 20, 31, 39, 48, 59, 67, 73, 152] 2 (by decide) (h)
set_option maxRecDepth 20000 in
theorem g_mo_spread_67 {d : Nat} {M L : zM} {Q : Int → zW → Prop} {x1 x2 x3 x4 x5 : Int} 
    (h : zEx (d + 1) m_mo_spread zb0 Q 73 ([zR 112, zI x1, zI x2, zI x3, zI x4, zI x5, zI 0, zI 0, zN, zN], [], SH, M, L)) :
    zEx (d + 1) m_mo_spread zb0 Q 67 ([zR 112, zI x1, zI x2, zI x3, zI x4, zI x5, zN, zN, zN, zN], [], SH, M, L) := zEx_run [5, 12, 20, 31, 39, 48, 59, 67, 73, 152] 2 (by decide) (h)
set_option maxRecDepth 20000 in
theorem g_mo_spread_73 {d : Nat} {M L : zM} {Q : Int → zW → Prop} {x1 x2 x3 x4 x5 x6 x7 : Int} 
    (h : if x6 < x5 then zck (0 ≤ x6 ∧ x6 < 28) (if M 128 (Int.toNat x6) = x2 then if x7 < x3 then zck (0 ≤ x6 ∧ x6 < 28) (if M 128 (Int.toNat x6) = x2 then zEx (d + 1) m_mo_spread zb0 Q 73 ([zR 112, zI x1, zI x2, zI x3, zI x4, zI x5, zI (zwr (x6 + 1)), zI (zwr (x7 + 1)), zN, zN], [], SH, M, L) else zEx (d + 1) m_mo_spread zb0 Q 73 ([zR 112, zI x1, zI x2, zI x3, zI x4, zI x5, zI (zwr (x6 + 1)), zI (zwr (x7 + 0)), zN, zN], [], SH, M, L)) else if x6 = x5 then Q (-9) (SH, M, L) else if x4 = 0 then zEx (d + 1) m_mo_spread zb0 Q 152 ([zR 112, zI x1, zI x2, zI x3, zI x4, zI x5, zI x6, zI x7, zI 0, zI 0], [], SH, M, L) else zEx (d + 1) m_mo_spread zb0 Q 152 ([zR 112, zI x1, zI x2, zI x3, zI x4, zI x5, zI x6, zI x7, zI (zwr (x5 - 1)), zI 0], [], SH, M, L) else zck (0 ≤ x6 ∧ x6 < 28) (if M 128 (Int.toNat x6) = x2 then zEx (d + 1) m_mo_spread zb0 Q 73 ([zR 112, zI x1, zI x2, zI x3, zI x4, zI x5, zI (zwr (x6 + 1)), zI (zwr (x7 + 1)), zN, zN], [], SH, M, L) else zEx (d + 1) m_mo_spread zb0 Q 73 ([zR 112, zI x1, zI x2, zI x3, zI x4, zI x5, zI (zwr (x6 + 1)), zI (zwr (x7 + 0)), zN, zN], [], SH, M, L))) else if x6 = x5 then Q (-9) (SH, M, L) else if x4 = 0 then zEx (d + 1) m_mo_spread zb0 Q 152 ([zR 112, zI x1, zI x2, zI x3, zI x4, zI x5, zI x6, zI x7, zI 0, zI 0], [], SH, M, L) else zEx (d + 1) m_mo_spread zb0 Q 152 ([zR 112, zI x1, zI x2, zI x3, zI x4, zI x5, zI x6, zI x7, zI (zwr (x5 - 1)), zI 0], [], SH, M, L)) :
    zEx (d + 1) m_mo_spread zb0 Q 73 ([zR 112, zI x1, zI x2, zI x3, zI x4, zI x5, zI x6, zI x7, zN, zN], [], SH, M, L) := zEx_run [5, 12, 20, 31, 39, 48, 59, 67, 73, 152] 6 (by decide) (h)
set_option maxRecDepth 20000 in
theorem g_mo_spread_152 {d : Nat} {M L : zM} {Q : Int → zW → Prop} {x1 x2 x3 x4 x5 x6 x7 x8 x9 : Int} 
    (h : if x9 < x5 then if x4 = 0 then zck (0 ≤ x6 ∧ x6 < 14) (zEx (d + 1) m_mo_spread zb0 Q 152 ([zR 112, zI x1, zI x2, zI x3, zI x4, zI x5, zI x6, zI x7, zI (zwr (x8 + (zand (zshr (M 134 (Int.toNat x6)) x9) 1))), zI (zwr (x9 + 1))], [], SH, M, L)) else zck (0 ≤ x9 ∧ x9 < 14) (zEx (d + 1) m_mo_spread zb0 Q 152 ([zR 112, zI x1, zI x2, zI x3, zI x4, zI x5, zI x6, zI x7, zI (zwr (x8 + (zwr (-(zand (zshr (M 134 (Int.toNat x9)) x6) 1))))), zI (zwr (x9 + 1))], [], SH, M, L)) else Q x8 (SH, M, L)) :
    zEx (d + 1) m_mo_spread zb0 Q 152 ([zR 112, zI x1, zI x2, zI x3, zI x4, zI x5, zI x6, zI x7, zI x8, zI x9], [], SH, M, L) := zEx_run [5, 12, 20, 31, 39, 48, 59, 67, 73, 152] 4 (by decide) (h)
set_option maxRecDepth 20000 in
theorem g_mo_common__0 {d : Nat} {M L : zM} {Q : Int → zW → Prop} {y0 y2 : Int} 
    (h : if zcmp y2 0 = 0 then zEx (d + 1) m_mo_common_ zb0 Q 17 ([zL y0, zN, zL y2, zN], [zL y0], SH, M, L) else zck (y2 ≠ 0) (zEv d m_mo_common_ [zL y2, zL (zlrem y0 y2)] (SH, M, L) (fun x w => zEx (d + 1) m_mo_common_ zb0 Q 17 ([zL y0, zN, zL y2, zN], [zL x], w)))) :
    zEx (d + 1) m_mo_common_ zb0 Q 0 ([zL y0, zN, zL y2, zN], [], SH, M, L) := zEx_run [17] 2 (by decide) (h)
set_option maxRecDepth 20000 in
theorem g_mo_common__17 {d : Nat} {M L : zM} {Q : Int → zW → Prop} {y0 y2 sy0 : Int} 
    (h : Q sy0 (SH, M, L)) :
    zEx (d + 1) m_mo_common_ zb0 Q 17 ([zL y0, zN, zL y2, zN], [zL sy0], SH, M, L) := zEx_run [17] 2 (by decide) (h)
set_option maxRecDepth 20000 in
theorem g_mo_odds_0 {d : Nat} {M L : zM} {Q : Int → zW → Prop} {x1 x2 : Int} 
    (h : zEv d m_mo_isWord [zR 112, zI x1] (SH, M, L) (fun x w => zEx (d + 1) m_mo_odds zb0 Q 5 ([zR 112, zI x1, zI x2, zN, zN, zN, zN, zN, zN], [zI x], w))) :
    zEx (d + 1) m_mo_odds zb0 Q 0 ([zR 112, zI x1, zI x2, zN, zN, zN, zN, zN, zN], [], SH, M, L) := zEx_run [5, 13, 20, 29, 40, 57, 73, 135] 2 (by decide) (h)
set_option maxRecDepth 20000 in
theorem g_mo_odds_5 {d : Nat} {M L : zM} {Q : Int → zW → Prop} {x1 x2 sx0 : Int} 
    (h : if sx0 = 0 then zEv d m_mo_noLong [zR 112, zI (-1)] (SH, M, L) (fun x w => zEx (d + 1) m_mo_odds zb0 Q 13 ([zR 112, zI x1, zI x2, zN, zN, zN, zN, zN, zN], [zL x], w)) else zEv d m_mo_isIn [zI x2, zI 0, zI 1] (SH, M, L) (fun x w => zEx (d + 1) m_mo_odds zb0 Q 20 ([zR 112, zI x1, zI x2, zN, zN, zN, zN, zN, zN], [zI x], w))) :
    zEx (d + 1) m_mo_odds zb0 Q 5 ([zR 112, zI x1, zI x2, zN, zN, zN, zN, zN, zN], [zI sx0], SH, M, L) := zEx_run [5, 13, 20, 29, 40, 57, 73, 135] 2 (by decide) (h)
set_option maxRecDepth 20000 in
theorem g_mo_odds_13 {d : Nat} {M L : zM} {Q : Int → zW → Prop} {x1 x2 sy0 : Int} 
    (h : Q sy0 (SH, M, L)) :
    zEx (d + 1) m_mo_odds zb0 Q 13 ([zR 112, zI x1, zI x2, zN, zN, zN, zN, zN, zN], [zL sy0], SH, M, L) := zEx_run [5, 13, 20, 29, 40, 57, 73, 135] 2 (by decide) (h)
set_option maxRecDepth 20000 in
theorem g_mo_odds_20 {d : Nat} {M L : zM} {Q : Int → zW → Prop} {x1 x2 sx0 : Int} 
    (h : if sx0 = 0 then zEv d m_mo_noLong [zR 112, zI (-2)] (SH, M, L) (fun x w => zEx (d + 1) m_mo_odds zb0 Q 29 ([zR 112, zI x1, zI x2, zN, zN, zN, zN, zN, zN], [zL x], w)) else zEv d m_mo_loads [zR 112, zR 128, zI 0, zI x1] (SH, M, L) (fun x w => zEx (d + 1) m_mo_odds zb0 Q 40 ([zR 112, zI x1, zI x2, zN, zN, zN, zN, zN, zN], [zI x], w))) :
    zEx (d + 1) m_mo_odds zb0 Q 20 ([zR 112, zI x1, zI x2, zN, zN, zN, zN, zN, zN], [zI sx0], SH, M, L) := zEx_run [5, 13, 20, 29, 40, 57, 73, 135] 2 (by decide) (h)
set_option maxRecDepth 20000 in
theorem g_mo_odds_29 {d : Nat} {M L : zM} {Q : Int → zW → Prop} {x1 x2 sy0 : Int} 
    (h : Q sy0 (SH, M, L)) :
    zEx (d + 1) m_mo_odds zb0 Q 29 ([zR 112, zI x1, zI x2, zN, zN, zN, zN, zN, zN], [zL sy0], SH, M, L) := zEx_run [5, 13, 20, 29, 40, 57, 73, 135] 2 (by decide) (h)
set_option maxRecDepth 20000 in
theorem g_mo_odds_40 {d : Nat} {M L : zM} {Q : Int → zW → Prop} {x1 x2 sx0 : Int} 
    (h : if sx0 = 0 then Q x2 (SH, M, L) else zEx (d + 1) m_mo_odds zb0 Q 57 ([zR 112, zI x1, zI x2, zI sx0, zL 0, zN, zL 0, zN, zI 0], [], SH, M, L)) :
    zEx (d + 1) m_mo_odds zb0 Q 40 ([zR 112, zI x1, zI x2, zN, zN, zN, zN, zN, zN], [zI sx0], SH, M, L) := zEx_run [5, 13, 20, 29, 40, 57, 73, 135] 3 (by decide) (h)
set_option maxRecDepth 20000 in
theorem g_mo_odds_57 {d : Nat} {M L : zM} {Q : Int → zW → Prop} {x1 x2 x3 y4 y6 x8 : Int} 
    (h : if x8 < x3 then zEv d m_mo_isReady [zR 112, zR 128, zI x8] (SH, M, L) (fun x w => zEx (d + 1) m_mo_odds zb0 Q 73 ([zR 112, zI x1, zI x2, zI x3, zL y4, zN, zL y6, zN, zI x8], [zI x], w)) else if x2 = 0 then zEv d m_mo_common_ [zL y4, zL y6] (SH, M, L) (fun x w => zEx (d + 1) m_mo_odds zb0 Q 135 ([zR 112, zI x1, zI x2, zI x3, zL y4, zN, zL y6, zN, zI x8], [zL x, zL y4], w)) else zEv d m_mo_common_ [zL y4, zL y6] (SH, M, L) (fun x w => zEx (d + 1) m_mo_odds zb0 Q 135 ([zR 112, zI x1, zI x2, zI x3, zL y4, zN, zL y6, zN, zI x8], [zL x, zL y6], w))) :
    zEx (d + 1) m_mo_odds zb0 Q 57 ([zR 112, zI x1, zI x2, zI x3, zL y4, zN, zL y6, zN, zI x8], [], SH, M, L) := zEx_run [5, 13, 20, 29, 40, 57, 73, 135] 4 (by decide) (h)
set_option maxRecDepth 20000 in
theorem g_mo_odds_73 {d : Nat} {M L : zM} {Q : Int → zW → Prop} {x1 x2 x3 y4 y6 x8 sx0 : Int} 
    (h : if sx0 = 0 then zEx (d + 1) m_mo_odds zb0 Q 57 ([zR 112, zI x1, zI x2, zI x3, zL y4, zN, zL y6, zN, zI (zwr (x8 + 1))], [], SH, M, L) else zck (0 ≤ x8 ∧ x8 < 28) (zck (0 ≤ M 128 (Int.toNat x8) ∧ M 128 (Int.toNat x8) < 6) (if M 114 (Int.toNat (M 128 (Int.toNat x8))) < 3 then zEx (d + 1) m_mo_odds zb0 Q 57 ([zR 112, zI x1, zI x2, zI x3, zL (zwl (y4 + 1)), zN, zL (zwl (y6 + 1)), zN, zI (zwr (x8 + 1))], [], SH, M, L) else zEx (d + 1) m_mo_odds zb0 Q 57 ([zR 112, zI x1, zI x2, zI x3, zL (zwl (y4 + 0)), zN, zL (zwl (y6 + 1)), zN, zI (zwr (x8 + 1))], [], SH, M, L)))) :
    zEx (d + 1) m_mo_odds zb0 Q 73 ([zR 112, zI x1, zI x2, zI x3, zL y4, zN, zL y6, zN, zI x8], [zI sx0], SH, M, L) := zEx_run [5, 13, 20, 29, 40, 57, 73, 135] 6 (by decide) (h)
set_option maxRecDepth 20000 in
theorem g_mo_odds_135 {d : Nat} {M L : zM} {Q : Int → zW → Prop} {x1 x2 x3 y4 y6 x8 sy0 sy1 : Int} 
    (h : zck (sy0 ≠ 0) (Q (zldiv sy1 sy0) (SH, M, L))) :
    zEx (d + 1) m_mo_odds zb0 Q 135 ([zR 112, zI x1, zI x2, zI x3, zL y4, zN, zL y6, zN, zI x8], [zL sy0, zL sy1], SH, M, L) := zEx_run [5, 13, 20, 29, 40, 57, 73, 135] 2 (by decide) (h)
set_option maxRecDepth 20000 in
theorem g_mo_placeOf_0 {d : Nat} {M L : zM} {Q : Int → zW → Prop} {r1 : Nat} {x2 x3 : Int} (hr1 : zkd SH r1 = 20)
    (h : zEx (d + 1) m_mo_placeOf zb0 Q 3 ([zR 112, zR r1, zI x2, zI x3, zI 0], [], SH, M, L)) :
    zEx (d + 1) m_mo_placeOf zb0 Q 0 ([zR 112, zR r1, zI x2, zI x3, zN], [], SH, M, L) := zEx_run [3, 24] 2 (by decide) (h)
set_option maxRecDepth 20000 in
theorem g_mo_placeOf_3 {d : Nat} {M L : zM} {Q : Int → zW → Prop} {r1 : Nat} {x2 x3 x4 : Int} (hr1 : zkd SH r1 = 20)
    (h : if x4 < x2 then zck (0 ≤ x4 ∧ x4 < zln SH r1) (if M r1 (Int.toNat x4) = x3 then zEv d m_mo_isReady [zR 112, zR r1, zI x4] (SH, M, L) (fun x w => zEx (d + 1) m_mo_placeOf zb0 Q 24 ([zR 112, zR r1, zI x2, zI x3, zI x4], [zI x], w)) else zEx (d + 1) m_mo_placeOf zb0 Q 3 ([zR 112, zR r1, zI x2, zI x3, zI (zwr (x4 + 1))], [], SH, M, L)) else Q (-9) (SH, M, L)) :
    zEx (d + 1) m_mo_placeOf zb0 Q 3 ([zR 112, zR r1, zI x2, zI x3, zI x4], [], SH, M, L) := zEx_run [3, 24] 3 (by decide) (zit (c := x4 < x2) h (fun h => zixm hr1 h (fun h => h)) (fun h => h))
set_option maxRecDepth 20000 in
theorem g_mo_placeOf_24 {d : Nat} {M L : zM} {Q : Int → zW → Prop} {r1 : Nat} {x2 x3 x4 sx0 : Int} (hr1 : zkd SH r1 = 20)
    (h : if sx0 = 0 then Q (-9) (SH, M, L) else Q x4 (SH, M, L)) :
    zEx (d + 1) m_mo_placeOf zb0 Q 24 ([zR 112, zR r1, zI x2, zI x3, zI x4], [zI sx0], SH, M, L) := zEx_run [3, 24] 3 (by decide) (h)
set_option maxRecDepth 20000 in
theorem g_mo_begins_0 {d : Nat} {M L : zM} {Q : Int → zW → Prop} {x1 x2 x3 : Int} 
    (h : zEv d m_mo_isWord [zR 112, zI x1] (SH, M, L) (fun x w => zEx (d + 1) m_mo_begins zb0 Q 5 ([zR 112, zI x1, zI x2, zI x3, zN, zN, zN], [zI x], w))) :
    zEx (d + 1) m_mo_begins zb0 Q 0 ([zR 112, zI x1, zI x2, zI x3, zN, zN, zN], [], SH, M, L) := zEx_run [5, 13, 21, 33, 44, 49, 82, 114, 145] 2 (by decide) (h)
set_option maxRecDepth 20000 in
theorem g_mo_begins_5 {d : Nat} {M L : zM} {Q : Int → zW → Prop} {x1 x2 x3 sx0 : Int} 
    (h : if sx0 = 0 then zEv d m_mo_no [zR 112, zI (-1)] (SH, M, L) (fun x w => zEx (d + 1) m_mo_begins zb0 Q 21 ([zR 112, zI x1, zI x2, zI x3, zN, zN, zN], [zI x], w)) else zEv d m_mo_isWord [zR 112, zI x2] (SH, M, L) (fun x w => zEx (d + 1) m_mo_begins zb0 Q 13 ([zR 112, zI x1, zI x2, zI x3, zN, zN, zN], [zI x], w))) :
    zEx (d + 1) m_mo_begins zb0 Q 5 ([zR 112, zI x1, zI x2, zI x3, zN, zN, zN], [zI sx0], SH, M, L) := zEx_run [5, 13, 21, 33, 44, 49, 82, 114, 145] 2 (by decide) (h)
set_option maxRecDepth 20000 in
theorem g_mo_begins_13 {d : Nat} {M L : zM} {Q : Int → zW → Prop} {x1 x2 x3 sx0 : Int} 
    (h : if sx0 = 0 then zEv d m_mo_no [zR 112, zI (-1)] (SH, M, L) (fun x w => zEx (d + 1) m_mo_begins zb0 Q 21 ([zR 112, zI x1, zI x2, zI x3, zN, zN, zN], [zI x], w)) else if x3 < (-1) then zEv d m_mo_no [zR 112, zI (-4)] (SH, M, L) (fun x w => zEx (d + 1) m_mo_begins zb0 Q 33 ([zR 112, zI x1, zI x2, zI x3, zN, zN, zN], [zI x], w)) else zEv d m_mo_loads [zR 112, zR 128, zI 0, zI x1] (SH, M, L) (fun x w => zEx (d + 1) m_mo_begins zb0 Q 44 ([zR 112, zI x1, zI x2, zI x3, zN, zN, zN], [zI x], w))) :
    zEx (d + 1) m_mo_begins zb0 Q 13 ([zR 112, zI x1, zI x2, zI x3, zN, zN, zN], [zI sx0], SH, M, L) := zEx_run [5, 13, 21, 33, 44, 49, 82, 114, 145] 3 (by decide) (h)
set_option maxRecDepth 20000 in
theorem g_mo_begins_21 {d : Nat} {M L : zM} {Q : Int → zW → Prop} {x1 x2 x3 sx0 : Int} 
    (h : Q sx0 (SH, M, L)) :
    zEx (d + 1) m_mo_begins zb0 Q 21 ([zR 112, zI x1, zI x2, zI x3, zN, zN, zN], [zI sx0], SH, M, L) := zEx_run [5, 13, 21, 33, 44, 49, 82, 114, 145] 2 (by decide) (h)
set_option maxRecDepth 20000 in
theorem g_mo_begins_33 {d : Nat} {M L : zM} {Q : Int → zW → Prop} {x1 x2 x3 sx0 : Int} 
    (h : Q sx0 (SH, M, L)) :
    zEx (d + 1) m_mo_begins zb0 Q 33 ([zR 112, zI x1, zI x2, zI x3, zN, zN, zN], [zI sx0], SH, M, L) := zEx_run [5, 13, 21, 33, 44, 49, 82, 114, 145] 2 (by decide) (h)
set_option maxRecDepth 20000 in
theorem g_mo_begins_44 {d : Nat} {M L : zM} {Q : Int → zW → Prop} {x1 x2 x3 sx0 : Int} 
    (h : zEx (d + 1) m_mo_begins zb0 Q 49 ([zR 112, zI x1, zI x2, zI x3, zI sx0, zI 0, zN], [], SH, M, L)) :
    zEx (d + 1) m_mo_begins zb0 Q 44 ([zR 112, zI x1, zI x2, zI x3, zN, zN, zN], [zI sx0], SH, M, L) := zEx_run [5, 13, 21, 33, 44, 49, 82, 114, 145] 2 (by decide) (h)
set_option maxRecDepth 20000 in
theorem g_mo_begins_49 {d : Nat} {M L : zM} {Q : Int → zW → Prop} {x1 x2 x3 x4 x5 : Int} {v6 : zV} 
    (h : zck (0 ≤ x2 ∧ x2 < 5) (if x5 < M 115 (Int.toNat x2) then zck (0 ≤ zwr ((zwr (14 * x2)) + x5) ∧ zwr ((zwr (14 * x2)) + x5) < 70) (zEv d m_mo_placeOf [zR 112, zR 128, zI x4, zI (M 116 (Int.toNat (zwr ((zwr (14 * x2)) + x5))))] (SH, M, L) (fun x w => zEx (d + 1) m_mo_begins zb0 Q 82 ([zR 112, zI x1, zI x2, zI x3, zI x4, zI x5, v6], [zI x], w))) else if x3 = (-1) then Q 1 (SH, M, L) else zEv d m_mo_takes [zR 112, zR 128, zI x4, zR 131, zI 0] (SH, M, L) (fun _ w => zEx (d + 1) m_mo_begins zb0 Q 145 ([zR 112, zI x1, zI x2, zI x3, zI x4, zI x5, v6], [], w)))) :
    zEx (d + 1) m_mo_begins zb0 Q 49 ([zR 112, zI x1, zI x2, zI x3, zI x4, zI x5, v6], [], SH, M, L) := zEx_run [5, 13, 21, 33, 44, 49, 82, 114, 145] 3 (by decide) (h)
set_option maxRecDepth 20000 in
theorem g_mo_begins_82 {d : Nat} {M L : zM} {Q : Int → zW → Prop} {x1 x2 x3 x4 x5 sx0 : Int} {v6 : zV} 
    (h : if sx0 = (-9) then if x3 = (-1) then Q 0 (SH, M, L) else Q (-9) (SH, M, L) else zEv d m_mo_goes [zR 128, zI x4, zI sx0] (SH, M, L) (fun _ w => zEx (d + 1) m_mo_begins zb0 Q 114 ([zR 112, zI x1, zI x2, zI x3, zI x4, zI x5, zI sx0], [], w))) :
    zEx (d + 1) m_mo_begins zb0 Q 82 ([zR 112, zI x1, zI x2, zI x3, zI x4, zI x5, v6], [zI sx0], SH, M, L) := zEx_run [5, 13, 21, 33, 44, 49, 82, 114, 145] 3 (by decide) (h)
set_option maxRecDepth 20000 in
theorem g_mo_begins_114 {d : Nat} {M L : zM} {Q : Int → zW → Prop} {x1 x2 x3 x4 x5 x6 : Int} 
    (h : zEx (d + 1) m_mo_begins zb0 Q 49 ([zR 112, zI x1, zI x2, zI x3, zI (zwr (x4 + (-1))), zI (zwr (x5 + 1)), zI x6], [], SH, M, L)) :
    zEx (d + 1) m_mo_begins zb0 Q 114 ([zR 112, zI x1, zI x2, zI x3, zI x4, zI x5, zI x6], [], SH, M, L) := zEx_run [5, 13, 21, 33, 44, 49, 82, 114, 145] 2 (by decide) (h)
set_option maxRecDepth 20000 in
theorem g_mo_begins_145 {d : Nat} {M L : zM} {Q : Int → zW → Prop} {x1 x2 x3 x4 x5 : Int} {v6 : zV} 
    (h : if x3 < x4 then zck (0 ≤ x3 ∧ x3 < 28) (Q (M 131 (Int.toNat x3)) (SH, M, L)) else Q (-9) (SH, M, L)) :
    zEx (d + 1) m_mo_begins zb0 Q 145 ([zR 112, zI x1, zI x2, zI x3, zI x4, zI x5, v6], [], SH, M, L) := zEx_run [5, 13, 21, 33, 44, 49, 82, 114, 145] 3 (by decide) (h)
set_option maxRecDepth 20000 in
theorem g_mo_common_0 {d : Nat} {M L : zM} {Q : Int → zW → Prop} {x1 x2 x3 : Int} 
    (h : zEv d m_mo_isWord [zR 112, zI x1] (SH, M, L) (fun x w => zEx (d + 1) m_mo_common zb0 Q 5 ([zR 112, zI x1, zI x2, zI x3, zN, zN, zN, zN, zN, zN], [zI x], w))) :
    zEx (d + 1) m_mo_common zb0 Q 0 ([zR 112, zI x1, zI x2, zI x3, zN, zN, zN, zN, zN, zN], [], SH, M, L) := zEx_run [5, 13, 21, 33, 44, 56, 64, 83, 97, 142, 153, 188] 2 (by decide) (h)
set_option maxRecDepth 20000 in
theorem g_mo_common_5 {d : Nat} {M L : zM} {Q : Int → zW → Prop} {x1 x2 x3 sx0 : Int} 
    (h : if sx0 = 0 then zEv d m_mo_no [zR 112, zI (-1)] (SH, M, L) (fun x w => zEx (d + 1) m_mo_common zb0 Q 21 ([zR 112, zI x1, zI x2, zI x3, zN, zN, zN, zN, zN, zN], [zI x], w)) else zEv d m_mo_isWord [zR 112, zI x2] (SH, M, L) (fun x w => zEx (d + 1) m_mo_common zb0 Q 13 ([zR 112, zI x1, zI x2, zI x3, zN, zN, zN, zN, zN, zN], [zI x], w))) :
    zEx (d + 1) m_mo_common zb0 Q 5 ([zR 112, zI x1, zI x2, zI x3, zN, zN, zN, zN, zN, zN], [zI sx0], SH, M, L) := zEx_run [5, 13, 21, 33, 44, 56, 64, 83, 97, 142, 153, 188] 2 (by decide) (h)
set_option maxRecDepth 20000 in
theorem g_mo_common_13 {d : Nat} {M L : zM} {Q : Int → zW → Prop} {x1 x2 x3 sx0 : Int} 
    (h : if sx0 = 0 then zEv d m_mo_no [zR 112, zI (-1)] (SH, M, L) (fun x w => zEx (d + 1) m_mo_common zb0 Q 21 ([zR 112, zI x1, zI x2, zI x3, zN, zN, zN, zN, zN, zN], [zI x], w)) else if x3 < (-1) then zEv d m_mo_no [zR 112, zI (-4)] (SH, M, L) (fun x w => zEx (d + 1) m_mo_common zb0 Q 33 ([zR 112, zI x1, zI x2, zI x3, zN, zN, zN, zN, zN, zN], [zI x], w)) else zEv d m_mo_loads [zR 112, zR 128, zI 0, zI x1] (SH, M, L) (fun x w => zEx (d + 1) m_mo_common zb0 Q 44 ([zR 112, zI x1, zI x2, zI x3, zN, zN, zN, zN, zN, zN], [zI x], w))) :
    zEx (d + 1) m_mo_common zb0 Q 13 ([zR 112, zI x1, zI x2, zI x3, zN, zN, zN, zN, zN, zN], [zI sx0], SH, M, L) := zEx_run [5, 13, 21, 33, 44, 56, 64, 83, 97, 142, 153, 188] 3 (by decide) (h)
set_option maxRecDepth 20000 in
theorem g_mo_common_21 {d : Nat} {M L : zM} {Q : Int → zW → Prop} {x1 x2 x3 sx0 : Int} 
    (h : Q sx0 (SH, M, L)) :
    zEx (d + 1) m_mo_common zb0 Q 21 ([zR 112, zI x1, zI x2, zI x3, zN, zN, zN, zN, zN, zN], [zI sx0], SH, M, L) := zEx_run [5, 13, 21, 33, 44, 56, 64, 83, 97, 142, 153, 188] 2 (by decide) (h)
set_option maxRecDepth 20000 in
theorem g_mo_common_33 {d : Nat} {M L : zM} {Q : Int → zW → Prop} {x1 x2 x3 sx0 : Int} 
    (h : Q sx0 (SH, M, L)) :
    zEx (d + 1) m_mo_common zb0 Q 33 ([zR 112, zI x1, zI x2, zI x3, zN, zN, zN, zN, zN, zN], [zI sx0], SH, M, L) := zEx_run [5, 13, 21, 33, 44, 56, 64, 83, 97, 142, 153, 188] 2 (by decide) (h)
set_option maxRecDepth 20000 in
theorem g_mo_common_44 {d : Nat} {M L : zM} {Q : Int → zW → Prop} {x1 x2 x3 sx0 : Int} 
    (h : zEv d m_mo_loads [zR 112, zR 129, zI 0, zI x2] (SH, M, L) (fun x w => zEx (d + 1) m_mo_common zb0 Q 56 ([zR 112, zI x1, zI x2, zI x3, zI sx0, zN, zN, zN, zN, zN], [zI x], w))) :
    zEx (d + 1) m_mo_common zb0 Q 44 ([zR 112, zI x1, zI x2, zI x3, zN, zN, zN, zN, zN, zN], [zI sx0], SH, M, L) := zEx_run [5, 13, 21, 33, 44, 56, 64, 83, 97, 142, 153, 188] 2 (by decide) (h)
set_option maxRecDepth 20000 in
theorem g_mo_common_56 {d : Nat} {M L : zM} {Q : Int → zW → Prop} {x1 x2 x3 x4 sx0 : Int} 
    (h : zEx (d + 1) m_mo_common zb0 Q 64 ([zR 112, zI x1, zI x2, zI x3, zI x4, zI sx0, zI 0, zI 0, zN, zN], [], SH, M, L)) :
    zEx (d + 1) m_mo_common zb0 Q 56 ([zR 112, zI x1, zI x2, zI x3, zI x4, zN, zN, zN, zN, zN], [zI sx0], SH, M, L) := zEx_run [5, 13, 21, 33, 44, 56, 64, 83, 97, 142, 153, 188] 2 (by decide) (h)
set_option maxRecDepth 20000 in
theorem g_mo_common_64 {d : Nat} {M L : zM} {Q : Int → zW → Prop} {x1 x2 x3 x4 x5 x6 x7 : Int} {v8 v9 : zV} 
    (h : if x7 < 6 then zEv d m_mo_placeOf [zR 112, zR 128, zI x4, zI x7] (SH, M, L) (fun x w => zEx (d + 1) m_mo_common zb0 Q 83 ([zR 112, zI x1, zI x2, zI x3, zI x4, zI x5, zI x6, zI x7, v8, v9], [zI x], w)) else if x3 = (-1) then Q x6 (SH, M, L) else zEv d m_mo_takes [zR 112, zR 136, zI x6, zR 131, zI 0] (SH, M, L) (fun _ w => zEx (d + 1) m_mo_common zb0 Q 188 ([zR 112, zI x1, zI x2, zI x3, zI x4, zI x5, zI x6, zI x7, v8, v9], [], w))) :
    zEx (d + 1) m_mo_common zb0 Q 64 ([zR 112, zI x1, zI x2, zI x3, zI x4, zI x5, zI x6, zI x7, v8, v9], [], SH, M, L) := zEx_run [5, 13, 21, 33, 44, 56, 64, 83, 97, 142, 153, 188] 3 (by decide) (h)
set_option maxRecDepth 20000 in
theorem g_mo_common_83 {d : Nat} {M L : zM} {Q : Int → zW → Prop} {x1 x2 x3 x4 x5 x6 x7 sx0 : Int} {v8 v9 : zV} 
    (h : zEv d m_mo_placeOf [zR 112, zR 129, zI x5, zI x7] (SH, M, L) (fun x w => zEx (d + 1) m_mo_common zb0 Q 97 ([zR 112, zI x1, zI x2, zI x3, zI x4, zI x5, zI x6, zI x7, zI sx0, v9], [zI x], w))) :
    zEx (d + 1) m_mo_common zb0 Q 83 ([zR 112, zI x1, zI x2, zI x3, zI x4, zI x5, zI x6, zI x7, v8, v9], [zI sx0], SH, M, L) := zEx_run [5, 13, 21, 33, 44, 56, 64, 83, 97, 142, 153, 188] 2 (by decide) (h)
set_option maxRecDepth 20000 in
theorem g_mo_common_97 {d : Nat} {M L : zM} {Q : Int → zW → Prop} {x1 x2 x3 x4 x5 x6 x7 x8 sx0 : Int} {v9 : zV} 
    (h : if x8 = (-9) then zEx (d + 1) m_mo_common zb0 Q 64 ([zR 112, zI x1, zI x2, zI x3, zI x4, zI x5, zI x6, zI (zwr (x7 + 1)), zI x8, zI sx0], [], SH, M, L) else if sx0 = (-9) then zEx (d + 1) m_mo_common zb0 Q 64 ([zR 112, zI x1, zI x2, zI x3, zI x4, zI x5, zI x6, zI (zwr (x7 + 1)), zI x8, zI sx0], [], SH, M, L) else zck (0 ≤ x6 ∧ x6 < 14) (zEv d m_mo_goes [zR 128, zI x4, zI x8] (SH, (zmu M 136 (Int.toNat x6) x7), L) (fun _ w => zEx (d + 1) m_mo_common zb0 Q 142 ([zR 112, zI x1, zI x2, zI x3, zI x4, zI x5, zI (zwr (x6 + 1)), zI x7, zI x8, zI sx0], [], w)))) :
    zEx (d + 1) m_mo_common zb0 Q 97 ([zR 112, zI x1, zI x2, zI x3, zI x4, zI x5, zI x6, zI x7, zI x8, v9], [zI sx0], SH, M, L) := zEx_run [5, 13, 21, 33, 44, 56, 64, 83, 97, 142, 153, 188] 3 (by decide) (h)
set_option maxRecDepth 20000 in
theorem g_mo_common_142 {d : Nat} {M L : zM} {Q : Int → zW → Prop} {x1 x2 x3 x4 x5 x6 x7 x8 x9 : Int} 
    (h : zEv d m_mo_goes [zR 129, zI x5, zI x9] (SH, M, L) (fun _ w => zEx (d + 1) m_mo_common zb0 Q 153 ([zR 112, zI x1, zI x2, zI x3, zI x4, zI x5, zI x6, zI x7, zI x8, zI x9], [], w))) :
    zEx (d + 1) m_mo_common zb0 Q 142 ([zR 112, zI x1, zI x2, zI x3, zI x4, zI x5, zI x6, zI x7, zI x8, zI x9], [], SH, M, L) := zEx_run [5, 13, 21, 33, 44, 56, 64, 83, 97, 142, 153, 188] 2 (by decide) (h)
set_option maxRecDepth 20000 in
theorem g_mo_common_153 {d : Nat} {M L : zM} {Q : Int → zW → Prop} {x1 x2 x3 x4 x5 x6 x7 x8 x9 : Int} 
    (h : zEx (d + 1) m_mo_common zb0 Q 64 ([zR 112, zI x1, zI x2, zI x3, zI (zwr (x4 + (-1))), zI (zwr (x5 + (-1))), zI x6, zI 0, zI x8, zI x9], [], SH, M, L)) :
    zEx (d + 1) m_mo_common zb0 Q 153 ([zR 112, zI x1, zI x2, zI x3, zI x4, zI x5, zI x6, zI x7, zI x8, zI x9], [], SH, M, L) := zEx_run [5, 13, 21, 33, 44, 56, 64, 83, 97, 142, 153, 188] 2 (by decide) (h)
set_option maxRecDepth 20000 in
theorem g_mo_common_188 {d : Nat} {M L : zM} {Q : Int → zW → Prop} {x1 x2 x3 x4 x5 x6 x7 : Int} {v8 v9 : zV} 
    (h : if x3 < x6 then zck (0 ≤ x3 ∧ x3 < 28) (Q (M 131 (Int.toNat x3)) (SH, M, L)) else Q (-9) (SH, M, L)) :
    zEx (d + 1) m_mo_common zb0 Q 188 ([zR 112, zI x1, zI x2, zI x3, zI x4, zI x5, zI x6, zI x7, v8, v9], [], SH, M, L) := zEx_run [5, 13, 21, 33, 44, 56, 64, 83, 97, 142, 153, 188] 3 (by decide) (h)
set_option maxRecDepth 20000 in
theorem g_mo_product_0 {d : Nat} {M L : zM} {Q : Int → zW → Prop} {x1 x2 : Int} 
    (h : zEv d m_mo_isWord [zR 112, zI x1] (SH, M, L) (fun x w => zEx (d + 1) m_mo_product zb0 Q 5 ([zR 112, zI x1, zI x2], [zI x], w))) :
    zEx (d + 1) m_mo_product zb0 Q 0 ([zR 112, zI x1, zI x2], [], SH, M, L) := zEx_run [5, 13, 21, 54, 75, 79, 82] 2 (by decide) (h)
set_option maxRecDepth 20000 in
theorem g_mo_product_5 {d : Nat} {M L : zM} {Q : Int → zW → Prop} {x1 x2 sx0 : Int} 
    (h : if sx0 = 0 then zEv d m_mo_no [zR 112, zI (-1)] (SH, M, L) (fun x w => zEx (d + 1) m_mo_product zb0 Q 21 ([zR 112, zI x1, zI x2], [zI x], w)) else zEv d m_mo_isWord [zR 112, zI x2] (SH, M, L) (fun x w => zEx (d + 1) m_mo_product zb0 Q 13 ([zR 112, zI x1, zI x2], [zI x], w))) :
    zEx (d + 1) m_mo_product zb0 Q 5 ([zR 112, zI x1, zI x2], [zI sx0], SH, M, L) := zEx_run [5, 13, 21, 54, 75, 79, 82] 2 (by decide) (h)
set_option maxRecDepth 20000 in
theorem g_mo_product_13 {d : Nat} {M L : zM} {Q : Int → zW → Prop} {x1 x2 sx0 : Int} 
    (h : if sx0 = 0 then zEv d m_mo_no [zR 112, zI (-1)] (SH, M, L) (fun x w => zEx (d + 1) m_mo_product zb0 Q 21 ([zR 112, zI x1, zI x2], [zI x], w)) else zck (0 ≤ x1 ∧ x1 < 5) (zck (0 ≤ x2 ∧ x2 < 5) (if 14 < zwr ((M 115 (Int.toNat x1)) + (M 115 (Int.toNat x2))) then zEv d m_mo_no [zR 112, zI (-6)] (SH, M, L) (fun x w => zEx (d + 1) m_mo_product zb0 Q 54 ([zR 112, zI x1, zI x2], [zI x], w)) else if M 112 2 = 5 then zEv d m_mo_no [zR 112, zI (-6)] (SH, M, L) (fun x w => zEx (d + 1) m_mo_product zb0 Q 54 ([zR 112, zI x1, zI x2], [zI x], w)) else zEv d m_mo_loads [zR 112, zR 128, zI 0, zI x1] (SH, M, L) (fun x w => zEx (d + 1) m_mo_product zb0 Q 75 ([zR 112, zI x1, zI x2], [zI x, zR 128, zR 112, zR 128, zR 112], w))))) :
    zEx (d + 1) m_mo_product zb0 Q 13 ([zR 112, zI x1, zI x2], [zI sx0], SH, M, L) := zEx_run [5, 13, 21, 54, 75, 79, 82] 3 (by decide) (h)
set_option maxRecDepth 20000 in
theorem g_mo_product_21 {d : Nat} {M L : zM} {Q : Int → zW → Prop} {x1 x2 sx0 : Int} 
    (h : Q sx0 (SH, M, L)) :
    zEx (d + 1) m_mo_product zb0 Q 21 ([zR 112, zI x1, zI x2], [zI sx0], SH, M, L) := zEx_run [5, 13, 21, 54, 75, 79, 82] 2 (by decide) (h)
set_option maxRecDepth 20000 in
theorem g_mo_product_54 {d : Nat} {M L : zM} {Q : Int → zW → Prop} {x1 x2 sx0 : Int} 
    (h : Q sx0 (SH, M, L)) :
    zEx (d + 1) m_mo_product zb0 Q 54 ([zR 112, zI x1, zI x2], [zI sx0], SH, M, L) := zEx_run [5, 13, 21, 54, 75, 79, 82] 2 (by decide) (h)
set_option maxRecDepth 20000 in
theorem g_mo_product_75 {d : Nat} {M L : zM} {Q : Int → zW → Prop} {x1 x2 sx0 : Int} 
    (h : zEv d m_mo_loads [zR 112, zR 128, zI sx0, zI x2] (SH, M, L) (fun x w => zEx (d + 1) m_mo_product zb0 Q 79 ([zR 112, zI x1, zI x2], [zI x, zR 128, zR 112], w))) :
    zEx (d + 1) m_mo_product zb0 Q 75 ([zR 112, zI x1, zI x2], [zI sx0, zR 128, zR 112, zR 128, zR 112], SH, M, L) := zEx_run [5, 13, 21, 54, 75, 79, 82] 2 (by decide) (h)
set_option maxRecDepth 20000 in
theorem g_mo_product_79 {d : Nat} {M L : zM} {Q : Int → zW → Prop} {x1 x2 sx0 : Int} 
    (h : zEv d m_mo_comes [zR 112, zR 128, zI sx0] (SH, M, L) (fun x w => zEx (d + 1) m_mo_product zb0 Q 82 ([zR 112, zI x1, zI x2], [zI x], w))) :
    zEx (d + 1) m_mo_product zb0 Q 79 ([zR 112, zI x1, zI x2], [zI sx0, zR 128, zR 112], SH, M, L) := zEx_run [5, 13, 21, 54, 75, 79, 82] 2 (by decide) (h)
set_option maxRecDepth 20000 in
theorem g_mo_product_82 {d : Nat} {M L : zM} {Q : Int → zW → Prop} {x1 x2 sx0 : Int} 
    (h : Q sx0 (SH, M, L)) :
    zEx (d + 1) m_mo_product zb0 Q 82 ([zR 112, zI x1, zI x2], [zI sx0], SH, M, L) := zEx_run [5, 13, 21, 54, 75, 79, 82] 2 (by decide) (h)
set_option maxRecDepth 20000 in
theorem g_mo_power_0 {d : Nat} {M L : zM} {Q : Int → zW → Prop} {x1 x2 : Int} 
    (h : zEv d m_mo_isWord [zR 112, zI x1] (SH, M, L) (fun x w => zEx (d + 1) m_mo_power zb0 Q 5 ([zR 112, zI x1, zI x2, zN, zN], [zI x], w))) :
    zEx (d + 1) m_mo_power zb0 Q 0 ([zR 112, zI x1, zI x2, zN, zN], [], SH, M, L) := zEx_run [5, 13, 24, 56, 62, 87, 103] 2 (by decide) (h)
set_option maxRecDepth 20000 in
theorem g_mo_power_5 {d : Nat} {M L : zM} {Q : Int → zW → Prop} {x1 x2 sx0 : Int} 
    (h : if sx0 = 0 then zEv d m_mo_no [zR 112, zI (-1)] (SH, M, L) (fun x w => zEx (d + 1) m_mo_power zb0 Q 13 ([zR 112, zI x1, zI x2, zN, zN], [zI x], w)) else if x2 < 0 then zEv d m_mo_no [zR 112, zI (-4)] (SH, M, L) (fun x w => zEx (d + 1) m_mo_power zb0 Q 24 ([zR 112, zI x1, zI x2, zN, zN], [zI x], w)) else zck (0 ≤ x1 ∧ x1 < 5) (if 0 < zcmp (zwl ((M 115 (Int.toNat x1)) * x2)) 14 then zEv d m_mo_no [zR 112, zI (-6)] (SH, M, L) (fun x w => zEx (d + 1) m_mo_power zb0 Q 56 ([zR 112, zI x1, zI x2, zN, zN], [zI x], w)) else if M 112 2 = 5 then zEv d m_mo_no [zR 112, zI (-6)] (SH, M, L) (fun x w => zEx (d + 1) m_mo_power zb0 Q 56 ([zR 112, zI x1, zI x2, zN, zN], [zI x], w)) else zEx (d + 1) m_mo_power zb0 Q 62 ([zR 112, zI x1, zI x2, zI 0, zI 0], [], SH, M, L))) :
    zEx (d + 1) m_mo_power zb0 Q 5 ([zR 112, zI x1, zI x2, zN, zN], [zI sx0], SH, M, L) := zEx_run [5, 13, 24, 56, 62, 87, 103] 5 (by decide) (h)
set_option maxRecDepth 20000 in
theorem g_mo_power_13 {d : Nat} {M L : zM} {Q : Int → zW → Prop} {x1 x2 sx0 : Int} 
    (h : Q sx0 (SH, M, L)) :
    zEx (d + 1) m_mo_power zb0 Q 13 ([zR 112, zI x1, zI x2, zN, zN], [zI sx0], SH, M, L) := zEx_run [5, 13, 24, 56, 62, 87, 103] 2 (by decide) (h)
set_option maxRecDepth 20000 in
theorem g_mo_power_24 {d : Nat} {M L : zM} {Q : Int → zW → Prop} {x1 x2 sx0 : Int} 
    (h : Q sx0 (SH, M, L)) :
    zEx (d + 1) m_mo_power zb0 Q 24 ([zR 112, zI x1, zI x2, zN, zN], [zI sx0], SH, M, L) := zEx_run [5, 13, 24, 56, 62, 87, 103] 2 (by decide) (h)
set_option maxRecDepth 20000 in
theorem g_mo_power_56 {d : Nat} {M L : zM} {Q : Int → zW → Prop} {x1 x2 sx0 : Int} 
    (h : Q sx0 (SH, M, L)) :
    zEx (d + 1) m_mo_power zb0 Q 56 ([zR 112, zI x1, zI x2, zN, zN], [zI sx0], SH, M, L) := zEx_run [5, 13, 24, 56, 62, 87, 103] 2 (by decide) (h)
set_option maxRecDepth 20000 in
theorem g_mo_power_62 {d : Nat} {M L : zM} {Q : Int → zW → Prop} {x1 x2 x3 x4 : Int} 
    (h : if x4 < x2 then zck (0 ≤ x1 ∧ x1 < 5) (if 0 < M 115 (Int.toNat x1) then zEv d m_mo_loads [zR 112, zR 128, zI x3, zI x1] (SH, M, L) (fun x w => zEx (d + 1) m_mo_power zb0 Q 87 ([zR 112, zI x1, zI x2, zI x3, zI x4], [zI x], w)) else zEv d m_mo_comes [zR 112, zR 128, zI x3] (SH, M, L) (fun x w => zEx (d + 1) m_mo_power zb0 Q 103 ([zR 112, zI x1, zI x2, zI x3, zI x4], [zI x], w))) else zEv d m_mo_comes [zR 112, zR 128, zI x3] (SH, M, L) (fun x w => zEx (d + 1) m_mo_power zb0 Q 103 ([zR 112, zI x1, zI x2, zI x3, zI x4], [zI x], w))) :
    zEx (d + 1) m_mo_power zb0 Q 62 ([zR 112, zI x1, zI x2, zI x3, zI x4], [], SH, M, L) := zEx_run [5, 13, 24, 56, 62, 87, 103] 2 (by decide) (h)
set_option maxRecDepth 20000 in
theorem g_mo_power_87 {d : Nat} {M L : zM} {Q : Int → zW → Prop} {x1 x2 x3 x4 sx0 : Int} 
    (h : zEx (d + 1) m_mo_power zb0 Q 62 ([zR 112, zI x1, zI x2, zI sx0, zI (zwr (x4 + 1))], [], SH, M, L)) :
    zEx (d + 1) m_mo_power zb0 Q 87 ([zR 112, zI x1, zI x2, zI x3, zI x4], [zI sx0], SH, M, L) := zEx_run [5, 13, 24, 56, 62, 87, 103] 2 (by decide) (h)
set_option maxRecDepth 20000 in
theorem g_mo_power_103 {d : Nat} {M L : zM} {Q : Int → zW → Prop} {x1 x2 x3 x4 sx0 : Int} 
    (h : Q sx0 (SH, M, L)) :
    zEx (d + 1) m_mo_power zb0 Q 103 ([zR 112, zI x1, zI x2, zI x3, zI x4], [zI sx0], SH, M, L) := zEx_run [5, 13, 24, 56, 62, 87, 103] 2 (by decide) (h)
set_option maxRecDepth 20000 in
theorem g_mo_changes_0 {d : Nat} {M L : zM} {Q : Int → zW → Prop} {x1 x2 : Int} 
    (h : zEv d m_mo_isWord [zR 112, zI x1] (SH, M, L) (fun x w => zEx (d + 1) m_mo_changes zb0 Q 5 ([zR 112, zI x1, zI x2, zN], [zI x], w))) :
    zEx (d + 1) m_mo_changes zb0 Q 0 ([zR 112, zI x1, zI x2, zN], [], SH, M, L) := zEx_run [5, 13, 21, 37, 41, 57, 61, 75] 2 (by decide) (h)
set_option maxRecDepth 20000 in
theorem g_mo_changes_5 {d : Nat} {M L : zM} {Q : Int → zW → Prop} {x1 x2 sx0 : Int} 
    (h : if sx0 = 0 then zEv d m_mo_no [zR 112, zI (-1)] (SH, M, L) (fun x w => zEx (d + 1) m_mo_changes zb0 Q 21 ([zR 112, zI x1, zI x2, zN], [zI x], w)) else zEv d m_mo_isWord [zR 112, zI x2] (SH, M, L) (fun x w => zEx (d + 1) m_mo_changes zb0 Q 13 ([zR 112, zI x1, zI x2, zN], [zI x], w))) :
    zEx (d + 1) m_mo_changes zb0 Q 5 ([zR 112, zI x1, zI x2, zN], [zI sx0], SH, M, L) := zEx_run [5, 13, 21, 37, 41, 57, 61, 75] 2 (by decide) (h)
set_option maxRecDepth 20000 in
theorem g_mo_changes_13 {d : Nat} {M L : zM} {Q : Int → zW → Prop} {x1 x2 sx0 : Int} 
    (h : if sx0 = 0 then zEv d m_mo_no [zR 112, zI (-1)] (SH, M, L) (fun x w => zEx (d + 1) m_mo_changes zb0 Q 21 ([zR 112, zI x1, zI x2, zN], [zI x], w)) else zEv d m_mo_loads [zR 112, zR 128, zI 0, zI x1] (SH, M, L) (fun x w => zEx (d + 1) m_mo_changes zb0 Q 37 ([zR 112, zI x1, zI x2, zN], [zI x, zR 128, zR 112], w))) :
    zEx (d + 1) m_mo_changes zb0 Q 13 ([zR 112, zI x1, zI x2, zN], [zI sx0], SH, M, L) := zEx_run [5, 13, 21, 37, 41, 57, 61, 75] 2 (by decide) (h)
set_option maxRecDepth 20000 in
theorem g_mo_changes_21 {d : Nat} {M L : zM} {Q : Int → zW → Prop} {x1 x2 sx0 : Int} 
    (h : Q sx0 (SH, M, L)) :
    zEx (d + 1) m_mo_changes zb0 Q 21 ([zR 112, zI x1, zI x2, zN], [zI sx0], SH, M, L) := zEx_run [5, 13, 21, 37, 41, 57, 61, 75] 2 (by decide) (h)
set_option maxRecDepth 20000 in
theorem g_mo_changes_37 {d : Nat} {M L : zM} {Q : Int → zW → Prop} {x1 x2 sx0 : Int} 
    (h : zEv d m_mo_loads [zR 112, zR 128, zI sx0, zI x2] (SH, M, L) (fun x w => zEx (d + 1) m_mo_changes zb0 Q 41 ([zR 112, zI x1, zI x2, zN], [zI x], w))) :
    zEx (d + 1) m_mo_changes zb0 Q 37 ([zR 112, zI x1, zI x2, zN], [zI sx0, zR 128, zR 112], SH, M, L) := zEx_run [5, 13, 21, 37, 41, 57, 61, 75] 2 (by decide) (h)
set_option maxRecDepth 20000 in
theorem g_mo_changes_41 {d : Nat} {M L : zM} {Q : Int → zW → Prop} {x1 x2 sx0 : Int} 
    (h : zEv d m_mo_loads [zR 112, zR 129, zI 0, zI x2] (SH, M, L) (fun x w => zEx (d + 1) m_mo_changes zb0 Q 57 ([zR 112, zI x1, zI x2, zI sx0], [zI x, zR 129, zR 112], w))) :
    zEx (d + 1) m_mo_changes zb0 Q 41 ([zR 112, zI x1, zI x2, zN], [zI sx0], SH, M, L) := zEx_run [5, 13, 21, 37, 41, 57, 61, 75] 2 (by decide) (h)
set_option maxRecDepth 20000 in
theorem g_mo_changes_57 {d : Nat} {M L : zM} {Q : Int → zW → Prop} {x1 x2 x3 sx0 : Int} 
    (h : zEv d m_mo_loads [zR 112, zR 129, zI sx0, zI x1] (SH, M, L) (fun x w => zEx (d + 1) m_mo_changes zb0 Q 61 ([zR 112, zI x1, zI x2, zI x3], [zI x], w))) :
    zEx (d + 1) m_mo_changes zb0 Q 57 ([zR 112, zI x1, zI x2, zI x3], [zI sx0, zR 129, zR 112], SH, M, L) := zEx_run [5, 13, 21, 37, 41, 57, 61, 75] 2 (by decide) (h)
set_option maxRecDepth 20000 in
theorem g_mo_changes_61 {d : Nat} {M L : zM} {Q : Int → zW → Prop} {x1 x2 x3 sx0 : Int} 
    (h : zEv d m_mo_areAlike [zR 112, zR 128, zR 129, zI x3] (SH, M, L) (fun x w => zEx (d + 1) m_mo_changes zb0 Q 75 ([zR 112, zI x1, zI x2, zI x3], [zI x], w))) :
    zEx (d + 1) m_mo_changes zb0 Q 61 ([zR 112, zI x1, zI x2, zI x3], [zI sx0], SH, M, L) := zEx_run [5, 13, 21, 37, 41, 57, 61, 75] 2 (by decide) (h)
set_option maxRecDepth 20000 in
theorem g_mo_changes_75 {d : Nat} {M L : zM} {Q : Int → zW → Prop} {x1 x2 x3 sx0 : Int} 
    (h : if sx0 = 0 then Q 0 (SH, M, L) else Q 1 (SH, M, L)) :
    zEx (d + 1) m_mo_changes zb0 Q 75 ([zR 112, zI x1, zI x2, zI x3], [zI sx0], SH, M, L) := zEx_run [5, 13, 21, 37, 41, 57, 61, 75] 3 (by decide) (h)
set_option maxRecDepth 20000 in
theorem g_mo_rootBy_0 {d : Nat} {M L : zM} {Q : Int → zW → Prop} {x1 x2 : Int} 
    (h : zEx (d + 1) m_mo_rootBy zb0 Q 2 ([zR 112, zI x1, zI x2, zI 0, zN, zN], [], SH, M, L)) :
    zEx (d + 1) m_mo_rootBy zb0 Q 0 ([zR 112, zI x1, zI x2, zN, zN, zN], [], SH, M, L) := zEx_run [2, 23, 61, 102] 2 (by decide) (h)
set_option maxRecDepth 20000 in
theorem g_mo_rootBy_2 {d : Nat} {M L : zM} {Q : Int → zW → Prop} {x1 x2 x3 : Int} 
    (h : if x3 < 6 then zck (0 ≤ x3 ∧ x3 < 6) (zEx (d + 1) m_mo_rootBy zb0 Q 2 ([zR 112, zI x1, zI x2, zI (zwr (x3 + 1)), zN, zN], [], SH, (zmu M 137 (Int.toNat x3) 0), L)) else zEx (d + 1) m_mo_rootBy zb0 Q 23 ([zR 112, zI x1, zI x2, zI 0, zN, zN], [], SH, M, L)) :
    zEx (d + 1) m_mo_rootBy zb0 Q 2 ([zR 112, zI x1, zI x2, zI x3, zN, zN], [], SH, M, L) := zEx_run [2, 23, 61, 102] 3 (by decide) (h)
set_option maxRecDepth 20000 in
theorem g_mo_rootBy_23 {d : Nat} {M L : zM} {Q : Int → zW → Prop} {x1 x2 x3 : Int} 
    (h : zck (0 ≤ x1 ∧ x1 < 5) (if x3 < M 115 (Int.toNat x1) then zck (0 ≤ zwr ((zwr (14 * x1)) + x3) ∧ zwr ((zwr (14 * x1)) + x3) < 70) (zck (0 ≤ M 116 (Int.toNat (zwr ((zwr (14 * x1)) + x3))) ∧ M 116 (Int.toNat (zwr ((zwr (14 * x1)) + x3))) < 6) (zck (0 ≤ M 116 (Int.toNat (zwr ((zwr (14 * x1)) + x3))) ∧ M 116 (Int.toNat (zwr ((zwr (14 * x1)) + x3))) < 6) (zEx (d + 1) m_mo_rootBy zb0 Q 23 ([zR 112, zI x1, zI x2, zI (zwr (x3 + 1)), zN, zN], [], SH, (zmu M 137 (Int.toNat (M 116 (Int.toNat (zwr ((zwr (14 * x1)) + x3))))) (zwr ((M 137 (Int.toNat (M 116 (Int.toNat (zwr ((zwr (14 * x1)) + x3)))))) + 1))), L)))) else zEx (d + 1) m_mo_rootBy zb0 Q 61 ([zR 112, zI x1, zI x2, zI 0, zN, zN], [], SH, M, L))) :
    zEx (d + 1) m_mo_rootBy zb0 Q 23 ([zR 112, zI x1, zI x2, zI x3, zN, zN], [], SH, M, L) := zEx_run [2, 23, 61, 102] 3 (by decide) (h)
set_option maxRecDepth 20000 in
theorem g_mo_rootBy_61 {d : Nat} {M L : zM} {Q : Int → zW → Prop} {x1 x2 x3 : Int} 
    (h : if x3 < 6 then zck (0 ≤ x3 ∧ x3 < 6) (zck (x2 ≠ 0) (if zrem (M 137 (Int.toNat x3)) x2 = 0 then zck (0 ≤ x3 ∧ x3 < 6) (zck (x2 ≠ 0) (zck (0 ≤ x3 ∧ x3 < 6) (zEx (d + 1) m_mo_rootBy zb0 Q 61 ([zR 112, zI x1, zI x2, zI (zwr (x3 + 1)), zN, zN], [], SH, (zmu M 137 (Int.toNat x3) (zdiv (M 137 (Int.toNat x3)) x2)), L)))) else Q (-9) (SH, M, L))) else zEx (d + 1) m_mo_rootBy zb0 Q 102 ([zR 112, zI x1, zI x2, zI 0, zI 0, zN], [], SH, M, L)) :
    zEx (d + 1) m_mo_rootBy zb0 Q 61 ([zR 112, zI x1, zI x2, zI x3, zN, zN], [], SH, M, L) := zEx_run [2, 23, 61, 102] 3 (by decide) (h)
set_option maxRecDepth 20000 in
theorem g_mo_rootBy_102 {d : Nat} {M L : zM} {Q : Int → zW → Prop} {x1 x2 x3 x4 : Int} {v5 : zV} 
    (h : zck (0 ≤ x1 ∧ x1 < 5) (if x4 < M 115 (Int.toNat x1) then zck (0 ≤ zwr ((zwr (14 * x1)) + x4) ∧ zwr ((zwr (14 * x1)) + x4) < 70) (zck (0 ≤ M 116 (Int.toNat (zwr ((zwr (14 * x1)) + x4))) ∧ M 116 (Int.toNat (zwr ((zwr (14 * x1)) + x4))) < 6) (if M 137 (Int.toNat (M 116 (Int.toNat (zwr ((zwr (14 * x1)) + x4))))) = 0 then zEx (d + 1) m_mo_rootBy zb0 Q 102 ([zR 112, zI x1, zI x2, zI x3, zI (zwr (x4 + 1)), zI (M 116 (Int.toNat (zwr ((zwr (14 * x1)) + x4))))], [], SH, M, L) else zck (0 ≤ M 116 (Int.toNat (zwr ((zwr (14 * x1)) + x4))) ∧ M 116 (Int.toNat (zwr ((zwr (14 * x1)) + x4))) < 6) (zck (0 ≤ M 116 (Int.toNat (zwr ((zwr (14 * x1)) + x4))) ∧ M 116 (Int.toNat (zwr ((zwr (14 * x1)) + x4))) < 6) (zck (0 ≤ x3 ∧ x3 < 28) (zEx (d + 1) m_mo_rootBy zb0 Q 102 ([zR 112, zI x1, zI x2, zI (zwr (x3 + 1)), zI (zwr (x4 + 1)), zI (M 116 (Int.toNat (zwr ((zwr (14 * x1)) + x4))))], [], SH, (zmu (zmu M 137 (Int.toNat (M 116 (Int.toNat (zwr ((zwr (14 * x1)) + x4))))) (zwr ((M 137 (Int.toNat (M 116 (Int.toNat (zwr ((zwr (14 * x1)) + x4)))))) - 1))) 129 (Int.toNat x3) (M 116 (Int.toNat (zwr ((zwr (14 * x1)) + x4))))), L)))))) else Q x3 (SH, M, L))) :
    zEx (d + 1) m_mo_rootBy zb0 Q 102 ([zR 112, zI x1, zI x2, zI x3, zI x4, v5], [], SH, M, L) := zEx_run [2, 23, 61, 102] 4 (by decide) (h)
set_option maxRecDepth 20000 in
theorem g_mo_isRoot_0 {d : Nat} {M L : zM} {Q : Int → zW → Prop} {x1 x2 x3 : Int} 
    (h : zEx (d + 1) m_mo_isRoot zb0 Q 3 ([zR 112, zI x1, zI x2, zI x3, zI 1, zN], [], SH, M, L)) :
    zEx (d + 1) m_mo_isRoot zb0 Q 0 ([zR 112, zI x1, zI x2, zI x3, zN, zN], [], SH, M, L) := zEx_run [3, 12, 59, 78] 2 (by decide) (h)
set_option maxRecDepth 20000 in
theorem g_mo_isRoot_3 {d : Nat} {M L : zM} {Q : Int → zW → Prop} {x1 x2 x3 x4 : Int} {v5 : zV} 
    (h : if x4 < x2 then zEx (d + 1) m_mo_isRoot zb0 Q 12 ([zR 112, zI x1, zI x2, zI x3, zI x4, zI 0], [], SH, M, L) else zEv d m_mo_loads [zR 112, zR 128, zI 0, zI x1] (SH, M, L) (fun x w => zEx (d + 1) m_mo_isRoot zb0 Q 59 ([zR 112, zI x1, zI x2, zI x3, zI x4, v5], [zI x], w))) :
    zEx (d + 1) m_mo_isRoot zb0 Q 3 ([zR 112, zI x1, zI x2, zI x3, zI x4, v5], [], SH, M, L) := zEx_run [3, 12, 59, 78] 2 (by decide) (h)
set_option maxRecDepth 20000 in
theorem g_mo_isRoot_12 {d : Nat} {M L : zM} {Q : Int → zW → Prop} {x1 x2 x3 x4 x5 : Int} 
    (h : if x5 < x3 then zck (0 ≤ x5 ∧ x5 < 28) (zck (0 ≤ zwr ((zwr (x3 * x4)) + x5) ∧ zwr ((zwr (x3 * x4)) + x5) < 28) (zEx (d + 1) m_mo_isRoot zb0 Q 12 ([zR 112, zI x1, zI x2, zI x3, zI x4, zI (zwr (x5 + 1))], [], SH, (zmu M 129 (Int.toNat (zwr ((zwr (x3 * x4)) + x5))) (M 129 (Int.toNat x5))), L))) else zEx (d + 1) m_mo_isRoot zb0 Q 3 ([zR 112, zI x1, zI x2, zI x3, zI (zwr (x4 + 1)), zI x5], [], SH, M, L)) :
    zEx (d + 1) m_mo_isRoot zb0 Q 12 ([zR 112, zI x1, zI x2, zI x3, zI x4, zI x5], [], SH, M, L) := zEx_run [3, 12, 59, 78] 3 (by decide) (h)
set_option maxRecDepth 20000 in
theorem g_mo_isRoot_59 {d : Nat} {M L : zM} {Q : Int → zW → Prop} {x1 x2 x3 x4 sx0 : Int} {v5 : zV} 
    (h : zck (0 ≤ x1 ∧ x1 < 5) (zEv d m_mo_areAlike [zR 112, zR 128, zR 129, zI (M 115 (Int.toNat x1))] (SH, M, L) (fun x w => zEx (d + 1) m_mo_isRoot zb0 Q 78 ([zR 112, zI x1, zI x2, zI x3, zI x4, v5], [zI x], w)))) :
    zEx (d + 1) m_mo_isRoot zb0 Q 59 ([zR 112, zI x1, zI x2, zI x3, zI x4, v5], [zI sx0], SH, M, L) := zEx_run [3, 12, 59, 78] 2 (by decide) (h)
set_option maxRecDepth 20000 in
theorem g_mo_isRoot_78 {d : Nat} {M L : zM} {Q : Int → zW → Prop} {x1 x2 x3 x4 sx0 : Int} {v5 : zV} 
    (h : zbl sx0 (fun b1 => Q b1 (SH, M, L))) :
    zEx (d + 1) m_mo_isRoot zb0 Q 78 ([zR 112, zI x1, zI x2, zI x3, zI x4, v5], [zI sx0], SH, M, L) := zEx_run [3, 12, 59, 78] 2 (by decide) (h)
set_option maxRecDepth 20000 in
theorem g_mo_root_0 {d : Nat} {M L : zM} {Q : Int → zW → Prop} {x1 x2 : Int} 
    (h : zEv d m_mo_isWord [zR 112, zI x1] (SH, M, L) (fun x w => zEx (d + 1) m_mo_root zb0 Q 5 ([zR 112, zI x1, zI x2, zN, zN], [zI x], w))) :
    zEx (d + 1) m_mo_root zb0 Q 0 ([zR 112, zI x1, zI x2, zN, zN], [], SH, M, L) := zEx_run [5, 13, 25, 41, 55, 57, 72, 84, 111] 2 (by decide) (h)
set_option maxRecDepth 20000 in
theorem g_mo_root_5 {d : Nat} {M L : zM} {Q : Int → zW → Prop} {x1 x2 sx0 : Int} 
    (h : if sx0 = 0 then zEv d m_mo_no [zR 112, zI (-1)] (SH, M, L) (fun x w => zEx (d + 1) m_mo_root zb0 Q 13 ([zR 112, zI x1, zI x2, zN, zN], [zI x], w)) else if x2 < (-1) then zEv d m_mo_no [zR 112, zI (-4)] (SH, M, L) (fun x w => zEx (d + 1) m_mo_root zb0 Q 25 ([zR 112, zI x1, zI x2, zN, zN], [zI x], w)) else zck (0 ≤ x1 ∧ x1 < 5) (if M 115 (Int.toNat x1) = 0 then zEv d m_mo_no [zR 112, zI (-3)] (SH, M, L) (fun x w => zEx (d + 1) m_mo_root zb0 Q 41 ([zR 112, zI x1, zI x2, zN, zN], [zI x], w)) else zck (0 ≤ x1 ∧ x1 < 5) (zEv d m_mo_rootBy [zR 112, zI x1, zI (M 115 (Int.toNat x1))] (SH, M, L) (fun x w => zEx (d + 1) m_mo_root zb0 Q 55 ([zR 112, zI x1, zI x2, zI (M 115 (Int.toNat x1)), zN], [zI x], w))))) :
    zEx (d + 1) m_mo_root zb0 Q 5 ([zR 112, zI x1, zI x2, zN, zN], [zI sx0], SH, M, L) := zEx_run [5, 13, 25, 41, 55, 57, 72, 84, 111] 4 (by decide) (h)
set_option maxRecDepth 20000 in
theorem g_mo_root_13 {d : Nat} {M L : zM} {Q : Int → zW → Prop} {x1 x2 sx0 : Int} 
    (h : Q sx0 (SH, M, L)) :
    zEx (d + 1) m_mo_root zb0 Q 13 ([zR 112, zI x1, zI x2, zN, zN], [zI sx0], SH, M, L) := zEx_run [5, 13, 25, 41, 55, 57, 72, 84, 111] 2 (by decide) (h)
set_option maxRecDepth 20000 in
theorem g_mo_root_25 {d : Nat} {M L : zM} {Q : Int → zW → Prop} {x1 x2 sx0 : Int} 
    (h : Q sx0 (SH, M, L)) :
    zEx (d + 1) m_mo_root zb0 Q 25 ([zR 112, zI x1, zI x2, zN, zN], [zI sx0], SH, M, L) := zEx_run [5, 13, 25, 41, 55, 57, 72, 84, 111] 2 (by decide) (h)
set_option maxRecDepth 20000 in
theorem g_mo_root_41 {d : Nat} {M L : zM} {Q : Int → zW → Prop} {x1 x2 sx0 : Int} 
    (h : Q sx0 (SH, M, L)) :
    zEx (d + 1) m_mo_root zb0 Q 41 ([zR 112, zI x1, zI x2, zN, zN], [zI sx0], SH, M, L) := zEx_run [5, 13, 25, 41, 55, 57, 72, 84, 111] 2 (by decide) (h)
set_option maxRecDepth 20000 in
theorem g_mo_root_55 {d : Nat} {M L : zM} {Q : Int → zW → Prop} {x1 x2 x3 sx0 : Int} 
    (h : zEx (d + 1) m_mo_root zb0 Q 57 ([zR 112, zI x1, zI x2, zI x3, zI sx0], [], SH, M, L)) :
    zEx (d + 1) m_mo_root zb0 Q 55 ([zR 112, zI x1, zI x2, zI x3, zN], [zI sx0], SH, M, L) := zEx_run [5, 13, 25, 41, 55, 57, 72, 84, 111] 2 (by decide) (h)
set_option maxRecDepth 20000 in
theorem g_mo_root_57 {d : Nat} {M L : zM} {Q : Int → zW → Prop} {x1 x2 x3 x4 : Int} 
    (h : if x4 = (-9) then zEv d m_mo_rootBy [zR 112, zI x1, zI (zwr (x3 + (-1)))] (SH, M, L) (fun x w => zEx (d + 1) m_mo_root zb0 Q 84 ([zR 112, zI x1, zI x2, zI (zwr (x3 + (-1))), zI x4], [zI x], w)) else zEv d m_mo_isRoot [zR 112, zI x1, zI x3, zI x4] (SH, M, L) (fun x w => zEx (d + 1) m_mo_root zb0 Q 72 ([zR 112, zI x1, zI x2, zI x3, zI x4], [zI x], w))) :
    zEx (d + 1) m_mo_root zb0 Q 57 ([zR 112, zI x1, zI x2, zI x3, zI x4], [], SH, M, L) := zEx_run [5, 13, 25, 41, 55, 57, 72, 84, 111] 2 (by decide) (h)
set_option maxRecDepth 20000 in
theorem g_mo_root_72 {d : Nat} {M L : zM} {Q : Int → zW → Prop} {x1 x2 x3 x4 sx0 : Int} 
    (h : if sx0 = 0 then zEv d m_mo_rootBy [zR 112, zI x1, zI (zwr (x3 + (-1)))] (SH, M, L) (fun x w => zEx (d + 1) m_mo_root zb0 Q 84 ([zR 112, zI x1, zI x2, zI (zwr (x3 + (-1))), zI x4], [zI x], w)) else if x2 = (-1) then Q x3 (SH, M, L) else zEv d m_mo_takes [zR 112, zR 129, zI x4, zR 131, zI 0] (SH, M, L) (fun _ w => zEx (d + 1) m_mo_root zb0 Q 111 ([zR 112, zI x1, zI x2, zI x3, zI x4], [], w))) :
    zEx (d + 1) m_mo_root zb0 Q 72 ([zR 112, zI x1, zI x2, zI x3, zI x4], [zI sx0], SH, M, L) := zEx_run [5, 13, 25, 41, 55, 57, 72, 84, 111] 3 (by decide) (h)
set_option maxRecDepth 20000 in
theorem g_mo_root_84 {d : Nat} {M L : zM} {Q : Int → zW → Prop} {x1 x2 x3 x4 sx0 : Int} 
    (h : zEx (d + 1) m_mo_root zb0 Q 57 ([zR 112, zI x1, zI x2, zI x3, zI sx0], [], SH, M, L)) :
    zEx (d + 1) m_mo_root zb0 Q 84 ([zR 112, zI x1, zI x2, zI x3, zI x4], [zI sx0], SH, M, L) := zEx_run [5, 13, 25, 41, 55, 57, 72, 84, 111] 2 (by decide) (h)
set_option maxRecDepth 20000 in
theorem g_mo_root_111 {d : Nat} {M L : zM} {Q : Int → zW → Prop} {x1 x2 x3 x4 : Int} 
    (h : if x2 < x4 then zck (0 ≤ x2 ∧ x2 < 28) (Q (M 131 (Int.toNat x2)) (SH, M, L)) else Q (-9) (SH, M, L)) :
    zEx (d + 1) m_mo_root zb0 Q 111 ([zR 112, zI x1, zI x2, zI x3, zI x4], [], SH, M, L) := zEx_run [5, 13, 25, 41, 55, 57, 72, 84, 111] 3 (by decide) (h)
set_option maxRecDepth 20000 in
theorem g_mo_stands_0 {d : Nat} {M L : zM} {Q : Int → zW → Prop} {x1 : Int} 
    (h : zEx (d + 1) m_mo_stands zb0 Q 4 ([zR 112, zI x1, zI 0, zI 0], [], SH, M, L)) :
    zEx (d + 1) m_mo_stands zb0 Q 0 ([zR 112, zI x1, zN, zN], [], SH, M, L) := zEx_run [4] 2 (by decide) (h)
set_option maxRecDepth 20000 in
theorem g_mo_stands_4 {d : Nat} {M L : zM} {Q : Int → zW → Prop} {x1 x2 x3 : Int} 
    (h : zck (0 ≤ x1 ∧ x1 < 5) (if x3 < M 115 (Int.toNat x1) then zck (0 ≤ zwr ((zwr (14 * x1)) + x3) ∧ zwr ((zwr (14 * x1)) + x3) < 70) (zEx (d + 1) m_mo_stands zb0 Q 4 ([zR 112, zI x1, zI (zor x2 (zshl 1 (M 116 (Int.toNat (zwr ((zwr (14 * x1)) + x3)))))), zI (zwr (x3 + 1))], [], SH, M, L)) else Q x2 (SH, M, L))) :
    zEx (d + 1) m_mo_stands zb0 Q 4 ([zR 112, zI x1, zI x2, zI x3], [], SH, M, L) := zEx_run [4] 2 (by decide) (h)
set_option maxRecDepth 20000 in
theorem g_mo_partOf_0 {d : Nat} {M L : zM} {Q : Int → zW → Prop} {x1 x2 : Int} 
    (h : zEx (d + 1) m_mo_partOf zb0 Q 7 ([zR 112, zI x1, zI x2, zI (zshl 1 x1), zI 0, zN], [], SH, M, L)) :
    zEx (d + 1) m_mo_partOf zb0 Q 0 ([zR 112, zI x1, zI x2, zN, zN, zN], [], SH, M, L) := zEx_run [7, 17] 2 (by decide) (h)
set_option maxRecDepth 20000 in
theorem g_mo_partOf_7 {d : Nat} {M L : zM} {Q : Int → zW → Prop} {x1 x2 x3 x4 : Int} {v5 : zV} 
    (h : if x4 < 6 then zEx (d + 1) m_mo_partOf zb0 Q 17 ([zR 112, zI x1, zI x2, zI x3, zI x4, zI 0], [], SH, M, L) else Q x3 (SH, M, L)) :
    zEx (d + 1) m_mo_partOf zb0 Q 7 ([zR 112, zI x1, zI x2, zI x3, zI x4, v5], [], SH, M, L) := zEx_run [7, 17] 2 (by decide) (h)
set_option maxRecDepth 20000 in
theorem g_mo_partOf_17 {d : Nat} {M L : zM} {Q : Int → zW → Prop} {x1 x2 x3 x4 x5 : Int} 
    (h : if x5 < 6 then if zand (zshr x3 x5) 1 = 1 then zck (0 ≤ x5 ∧ x5 < 6) (zEx (d + 1) m_mo_partOf zb0 Q 17 ([zR 112, zI x1, zI x2, zI (zor x3 (zand x2 (zxor (M 113 (Int.toNat x5)) (-1)))), zI x4, zI (zwr (x5 + 1))], [], SH, M, L)) else zEx (d + 1) m_mo_partOf zb0 Q 17 ([zR 112, zI x1, zI x2, zI (zor x3 0), zI x4, zI (zwr (x5 + 1))], [], SH, M, L) else zEx (d + 1) m_mo_partOf zb0 Q 7 ([zR 112, zI x1, zI x2, zI x3, zI (zwr (x4 + 1)), zI x5], [], SH, M, L)) :
    zEx (d + 1) m_mo_partOf zb0 Q 17 ([zR 112, zI x1, zI x2, zI x3, zI x4, zI x5], [], SH, M, L) := zEx_run [7, 17] 4 (by decide) (h)
set_option maxRecDepth 20000 in
theorem g_mo_parts_0 {d : Nat} {M L : zM} {Q : Int → zW → Prop} {x1 x2 : Int} 
    (h : zEv d m_mo_isWord [zR 112, zI x1] (SH, M, L) (fun x w => zEx (d + 1) m_mo_parts zb0 Q 5 ([zR 112, zI x1, zI x2, zN, zN, zN], [zI x], w))) :
    zEx (d + 1) m_mo_parts zb0 Q 0 ([zR 112, zI x1, zI x2, zN, zN, zN], [], SH, M, L) := zEx_run [5, 14, 22, 28, 48, 59, 85] 2 (by decide) (h)
set_option maxRecDepth 20000 in
theorem g_mo_parts_5 {d : Nat} {M L : zM} {Q : Int → zW → Prop} {x1 x2 sx0 : Int} 
    (h : if sx0 = 0 then zEv d m_mo_no [zR 112, zI (-1)] (SH, M, L) (fun x w => zEx (d + 1) m_mo_parts zb0 Q 22 ([zR 112, zI x1, zI x2, zN, zN, zN], [zI x], w)) else zEv d m_mo_isIn [zI x2, zI (-1), zI 5] (SH, M, L) (fun x w => zEx (d + 1) m_mo_parts zb0 Q 14 ([zR 112, zI x1, zI x2, zN, zN, zN], [zI x], w))) :
    zEx (d + 1) m_mo_parts zb0 Q 5 ([zR 112, zI x1, zI x2, zN, zN, zN], [zI sx0], SH, M, L) := zEx_run [5, 14, 22, 28, 48, 59, 85] 2 (by decide) (h)
set_option maxRecDepth 20000 in
theorem g_mo_parts_14 {d : Nat} {M L : zM} {Q : Int → zW → Prop} {x1 x2 sx0 : Int} 
    (h : if sx0 = 0 then zEv d m_mo_no [zR 112, zI (-1)] (SH, M, L) (fun x w => zEx (d + 1) m_mo_parts zb0 Q 22 ([zR 112, zI x1, zI x2, zN, zN, zN], [zI x], w)) else zEv d m_mo_stands [zR 112, zI x1] (SH, M, L) (fun x w => zEx (d + 1) m_mo_parts zb0 Q 28 ([zR 112, zI x1, zI x2, zN, zN, zN], [zI x], w))) :
    zEx (d + 1) m_mo_parts zb0 Q 14 ([zR 112, zI x1, zI x2, zN, zN, zN], [zI sx0], SH, M, L) := zEx_run [5, 14, 22, 28, 48, 59, 85] 2 (by decide) (h)
set_option maxRecDepth 20000 in
theorem g_mo_parts_22 {d : Nat} {M L : zM} {Q : Int → zW → Prop} {x1 x2 sx0 : Int} 
    (h : Q sx0 (SH, M, L)) :
    zEx (d + 1) m_mo_parts zb0 Q 22 ([zR 112, zI x1, zI x2, zN, zN, zN], [zI sx0], SH, M, L) := zEx_run [5, 14, 22, 28, 48, 59, 85] 2 (by decide) (h)
set_option maxRecDepth 20000 in
theorem g_mo_parts_28 {d : Nat} {M L : zM} {Q : Int → zW → Prop} {x1 x2 sx0 : Int} 
    (h : if x2 < 0 then zEx (d + 1) m_mo_parts zb0 Q 59 ([zR 112, zI x1, zI x2, zI sx0, zI 0, zI 0], [], SH, M, L) else if zand (zshr sx0 x2) 1 = 1 then zEv d m_mo_partOf [zR 112, zI x2, zI sx0] (SH, M, L) (fun x w => zEx (d + 1) m_mo_parts zb0 Q 48 ([zR 112, zI x1, zI x2, zI sx0, zN, zN], [zI x], w)) else Q 0 (SH, M, L)) :
    zEx (d + 1) m_mo_parts zb0 Q 28 ([zR 112, zI x1, zI x2, zN, zN, zN], [zI sx0], SH, M, L) := zEx_run [5, 14, 22, 28, 48, 59, 85] 3 (by decide) (h)
set_option maxRecDepth 20000 in
theorem g_mo_parts_48 {d : Nat} {M L : zM} {Q : Int → zW → Prop} {x1 x2 x3 sx0 : Int} 
    (h : Q sx0 (SH, M, L)) :
    zEx (d + 1) m_mo_parts zb0 Q 48 ([zR 112, zI x1, zI x2, zI x3, zN, zN], [zI sx0], SH, M, L) := zEx_run [5, 14, 22, 28, 48, 59, 85] 2 (by decide) (h)
set_option maxRecDepth 20000 in
theorem g_mo_parts_59 {d : Nat} {M L : zM} {Q : Int → zW → Prop} {x1 x2 x3 x4 x5 : Int} 
    (h : if x5 < 6 then if zand (zshr x3 x5) 1 = 1 then zEv d m_mo_partOf [zR 112, zI x5, zI x3] (SH, M, L) (fun x w => zEx (d + 1) m_mo_parts zb0 Q 85 ([zR 112, zI x1, zI x2, zI x3, zI x4, zI x5], [zI x, zI x4], w)) else zEx (d + 1) m_mo_parts zb0 Q 59 ([zR 112, zI x1, zI x2, zI x3, zI (zwr (x4 + 0)), zI (zwr (x5 + 1))], [], SH, M, L) else Q x4 (SH, M, L)) :
    zEx (d + 1) m_mo_parts zb0 Q 59 ([zR 112, zI x1, zI x2, zI x3, zI x4, zI x5], [], SH, M, L) := zEx_run [5, 14, 22, 28, 48, 59, 85] 4 (by decide) (h)
set_option maxRecDepth 20000 in
theorem g_mo_parts_85 {d : Nat} {M L : zM} {Q : Int → zW → Prop} {x1 x2 x3 x4 x5 sx0 sx1 : Int} 
    (h : if zand sx0 (zwr ((zshl 1 x5) - 1)) = 0 then zEx (d + 1) m_mo_parts zb0 Q 59 ([zR 112, zI x1, zI x2, zI x3, zI (zwr (sx1 + 1)), zI (zwr (x5 + 1))], [], SH, M, L) else zEx (d + 1) m_mo_parts zb0 Q 59 ([zR 112, zI x1, zI x2, zI x3, zI (zwr (sx1 + 0)), zI (zwr (x5 + 1))], [], SH, M, L)) :
    zEx (d + 1) m_mo_parts zb0 Q 85 ([zR 112, zI x1, zI x2, zI x3, zI x4, zI x5], [zI sx0, zI sx1], SH, M, L) := zEx_run [5, 14, 22, 28, 48, 59, 85] 4 (by decide) (h)
set_option maxRecDepth 20000 in
theorem g_mo_numberOf_0 {d : Nat} {M L : zM} {Q : Int → zW → Prop} {r1 : Nat} {x2 : Int} (hr1 : zkd SH r1 = 20)
    (h : zEx (d + 1) m_mo_numberOf zb0 Q 5 ([zR 112, zR r1, zI x2, zI 0, zI 0], [], SH, M, L)) :
    zEx (d + 1) m_mo_numberOf zb0 Q 0 ([zR 112, zR r1, zI x2, zN, zN], [], SH, M, L) := zEx_run [5] 2 (by decide) (h)
set_option maxRecDepth 20000 in
theorem g_mo_numberOf_5 {d : Nat} {M L : zM} {Q : Int → zW → Prop} {r1 : Nat} {x2 x3 x4 : Int} (hr1 : zkd SH r1 = 20)
    (h : if x4 < x2 then zck (0 ≤ x4 ∧ x4 < zln SH r1) (zEx (d + 1) m_mo_numberOf zb0 Q 5 ([zR 112, zR r1, zI x2, zI (zwr ((zwr (6 * x3)) + (M r1 (Int.toNat x4)))), zI (zwr (x4 + 1))], [], SH, M, L)) else Q x3 (SH, M, L)) :
    zEx (d + 1) m_mo_numberOf zb0 Q 5 ([zR 112, zR r1, zI x2, zI x3, zI x4], [], SH, M, L) := zEx_run [5] 2 (by decide) (zit (c := x4 < x2) h (fun h => zixm hr1 h (fun h => h)) (fun h => h))
set_option maxRecDepth 20000 in
theorem g_mo_lays__0 {d : Nat} {M L : zM} {Q : Int → zW → Prop} {x1 x3 : Int} {r2 : Nat} (hr2 : zkd SH r2 = 20)
    (h : zEx (d + 1) m_mo_lays_ zb0 Q 8 ([zR 112, zI x1, zR r2, zI x3, zI x1, zI (zwr (x3 - 1))], [], SH, M, L)) :
    zEx (d + 1) m_mo_lays_ zb0 Q 0 ([zR 112, zI x1, zR r2, zI x3, zN, zN], [], SH, M, L) := zEx_run [8] 2 (by decide) (h)
set_option maxRecDepth 20000 in
theorem g_mo_lays__8 {d : Nat} {M L : zM} {Q : Int → zW → Prop} {x1 x3 x4 x5 : Int} {r2 : Nat} (hr2 : zkd SH r2 = 20)
    (h : if x5 < 0 then Q 0 (SH, M, L) else zck (0 ≤ x5 ∧ x5 < zln SH r2) (zEx (d + 1) m_mo_lays_ zb0 Q 8 ([zR 112, zI x1, zR r2, zI x3, zI (zdiv x4 6), zI (zwr (x5 + (-1)))], [], SH, (zmu M r2 (Int.toNat x5) (zrem x4 6)), L))) :
    zEx (d + 1) m_mo_lays_ zb0 Q 8 ([zR 112, zI x1, zR r2, zI x3, zI x4, zI x5], [], SH, M, L) := zEx_run [8] 2 (by decide) (zit (c := x5 < 0) h (fun h => h) (fun h => zixm hr2 h (fun h => h)))
set_option maxRecDepth 20000 in
theorem g_mo_finds_0 {d : Nat} {M L : zM} {Q : Int → zW → Prop} {x1 x2 : Int} 
    (h : zEx (d + 1) m_mo_finds zb0 Q 2 ([zR 112, zI x1, zI x2, zI 0], [], SH, M, L)) :
    zEx (d + 1) m_mo_finds zb0 Q 0 ([zR 112, zI x1, zI x2, zN], [], SH, M, L) := zEx_run [2] 2 (by decide) (h)
set_option maxRecDepth 20000 in
theorem g_mo_finds_2 {d : Nat} {M L : zM} {Q : Int → zW → Prop} {x1 x2 x3 : Int} 
    (h : if x3 < M 112 33 then zck (0 ≤ x3 ∧ x3 < 5040) (if M 138 (Int.toNat x3) = x1 then Q 0 (SH, M, L) else zEx (d + 1) m_mo_finds zb0 Q 2 ([zR 112, zI x1, zI x2, zI (zwr (x3 + 1))], [], SH, M, L)) else zck (0 ≤ M 112 33 ∧ M 112 33 < 5040) (zck (0 ≤ (zmu M 138 (Int.toNat (M 112 33)) x1) 112 33 ∧ (zmu M 138 (Int.toNat (M 112 33)) x1) 112 33 < 5040) (Q 0 (SH, (zmu (zmu (zmu M 138 (Int.toNat (M 112 33)) x1) 139 (Int.toNat ((zmu M 138 (Int.toNat (M 112 33)) x1) 112 33)) x2) 112 33 (zwr (((zmu (zmu M 138 (Int.toNat (M 112 33)) x1) 139 (Int.toNat ((zmu M 138 (Int.toNat (M 112 33)) x1) 112 33)) x2) 112 33) + 1))), L)))) :
    zEx (d + 1) m_mo_finds zb0 Q 2 ([zR 112, zI x1, zI x2, zI x3], [], SH, M, L) := zEx_run [2] 3 (by decide) (h)
set_option maxRecDepth 20000 in
theorem g_mo_turnsAll_0 {d : Nat} {M L : zM} {Q : Int → zW → Prop} {x1 : Int} 
    (h : zEv d m_mo_loads [zR 112, zR 128, zI 0, zI x1] (SH, M, L) (fun x w => zEx (d + 1) m_mo_turnsAll zb0 Q 10 ([zR 112, zI x1, zN, zN, zN, zN], [zI x], w))) :
    zEx (d + 1) m_mo_turnsAll zb0 Q 0 ([zR 112, zI x1, zN, zN, zN, zN], [], SH, M, L) := zEx_run [10, 25, 40, 44, 46, 57, 78, 88, 113, 137, 147, 158] 2 (by decide) (h)
set_option maxRecDepth 20000 in
theorem g_mo_turnsAll_10 {d : Nat} {M L : zM} {Q : Int → zW → Prop} {x1 sx0 : Int} 
    (h : zEv d m_mo_takes [zR 112, zR 128, zI sx0, zR 131, zI 0] (SH, M, L) (fun _ w => zEx (d + 1) m_mo_turnsAll zb0 Q 25 ([zR 112, zI x1, zI sx0, zN, zN, zN], [], w))) :
    zEx (d + 1) m_mo_turnsAll zb0 Q 10 ([zR 112, zI x1, zN, zN, zN, zN], [zI sx0], SH, M, L) := zEx_run [10, 25, 40, 44, 46, 57, 78, 88, 113, 137, 147, 158] 2 (by decide) (h)
set_option maxRecDepth 20000 in
theorem g_mo_turnsAll_25 {d : Nat} {M L : zM} {Q : Int → zW → Prop} {x1 x2 : Int} 
    (h : zEv d m_mo_numberOf [zR 112, zR 131, zI x2] (SH, (zmu M 112 33 0), L) (fun x w => zEx (d + 1) m_mo_turnsAll zb0 Q 40 ([zR 112, zI x1, zI x2, zN, zN, zN], [zI x, zR 112], w))) :
    zEx (d + 1) m_mo_turnsAll zb0 Q 25 ([zR 112, zI x1, zI x2, zN, zN, zN], [], SH, M, L) := zEx_run [10, 25, 40, 44, 46, 57, 78, 88, 113, 137, 147, 158] 2 (by decide) (h)
set_option maxRecDepth 20000 in
theorem g_mo_turnsAll_40 {d : Nat} {M L : zM} {Q : Int → zW → Prop} {x1 x2 sx0 : Int} 
    (h : zEv d m_mo_finds [zR 112, zI sx0, zI 0] (SH, M, L) (fun _ w => zEx (d + 1) m_mo_turnsAll zb0 Q 44 ([zR 112, zI x1, zI x2, zN, zN, zN], [], w))) :
    zEx (d + 1) m_mo_turnsAll zb0 Q 40 ([zR 112, zI x1, zI x2, zN, zN, zN], [zI sx0, zR 112], SH, M, L) := zEx_run [10, 25, 40, 44, 46, 57, 78, 88, 113, 137, 147, 158] 2 (by decide) (h)
set_option maxRecDepth 20000 in
theorem g_mo_turnsAll_44 {d : Nat} {M L : zM} {Q : Int → zW → Prop} {x1 x2 : Int} 
    (h : zEx (d + 1) m_mo_turnsAll zb0 Q 46 ([zR 112, zI x1, zI x2, zI 0, zN, zN], [], SH, M, L)) :
    zEx (d + 1) m_mo_turnsAll zb0 Q 44 ([zR 112, zI x1, zI x2, zN, zN, zN], [], SH, M, L) := zEx_run [10, 25, 40, 44, 46, 57, 78, 88, 113, 137, 147, 158] 2 (by decide) (h)
set_option maxRecDepth 20000 in
theorem g_mo_turnsAll_46 {d : Nat} {M L : zM} {Q : Int → zW → Prop} {x1 x2 x3 : Int} {v4 v5 : zV} 
    (h : if x3 < M 112 33 then zEx (d + 1) m_mo_turnsAll zb0 Q 57 ([zR 112, zI x1, zI x2, zI x3, zI 0, v5], [], SH, M, L) else Q 0 (SH, M, L)) :
    zEx (d + 1) m_mo_turnsAll zb0 Q 46 ([zR 112, zI x1, zI x2, zI x3, v4, v5], [], SH, M, L) := zEx_run [10, 25, 40, 44, 46, 57, 78, 88, 113, 137, 147, 158] 2 (by decide) (h)
set_option maxRecDepth 20000 in
theorem g_mo_turnsAll_57 {d : Nat} {M L : zM} {Q : Int → zW → Prop} {x1 x2 x3 x4 : Int} {v5 : zV} 
    (h : if x4 < x2 then zck (0 ≤ x3 ∧ x3 < 5040) (zEv d m_mo_lays_ [zR 112, zI (M 138 (Int.toNat x3)), zR 128, zI x2] (SH, M, L) (fun _ w => zEx (d + 1) m_mo_turnsAll zb0 Q 78 ([zR 112, zI x1, zI x2, zI x3, zI x4, v5], [], w))) else zEx (d + 1) m_mo_turnsAll zb0 Q 46 ([zR 112, zI x1, zI x2, zI (zwr (x3 + 1)), zI x4, v5], [], SH, M, L)) :
    zEx (d + 1) m_mo_turnsAll zb0 Q 57 ([zR 112, zI x1, zI x2, zI x3, zI x4, v5], [], SH, M, L) := zEx_run [10, 25, 40, 44, 46, 57, 78, 88, 113, 137, 147, 158] 3 (by decide) (h)
set_option maxRecDepth 20000 in
theorem g_mo_turnsAll_78 {d : Nat} {M L : zM} {Q : Int → zW → Prop} {x1 x2 x3 x4 : Int} {v5 : zV} 
    (h : zEv d m_mo_isReady [zR 112, zR 128, zI x4] (SH, M, L) (fun x w => zEx (d + 1) m_mo_turnsAll zb0 Q 88 ([zR 112, zI x1, zI x2, zI x3, zI x4, v5], [zI x], w))) :
    zEx (d + 1) m_mo_turnsAll zb0 Q 78 ([zR 112, zI x1, zI x2, zI x3, zI x4, v5], [], SH, M, L) := zEx_run [10, 25, 40, 44, 46, 57, 78, 88, 113, 137, 147, 158] 2 (by decide) (h)
set_option maxRecDepth 20000 in
theorem g_mo_turnsAll_88 {d : Nat} {M L : zM} {Q : Int → zW → Prop} {x1 x2 x3 x4 sx0 : Int} {v5 : zV} 
    (h : if sx0 = 0 then zEx (d + 1) m_mo_turnsAll zb0 Q 158 ([zR 112, zI x1, zI x2, zI x3, zI x4, v5], [], SH, M, L) else zck (0 ≤ x4 ∧ x4 < 28) (zEv d m_mo_goes [zR 128, zI x2, zI x4] (SH, M, L) (fun _ w => zEx (d + 1) m_mo_turnsAll zb0 Q 113 ([zR 112, zI x1, zI x2, zI x3, zI x4, zI (M 128 (Int.toNat x4))], [], w)))) :
    zEx (d + 1) m_mo_turnsAll zb0 Q 88 ([zR 112, zI x1, zI x2, zI x3, zI x4, v5], [zI sx0], SH, M, L) := zEx_run [10, 25, 40, 44, 46, 57, 78, 88, 113, 137, 147, 158] 2 (by decide) (h)
set_option maxRecDepth 20000 in
theorem g_mo_turnsAll_113 {d : Nat} {M L : zM} {Q : Int → zW → Prop} {x1 x2 x3 x4 x5 : Int} 
    (h : zck (0 ≤ zwr (x2 - 1) ∧ zwr (x2 - 1) < 28) (zEv d m_mo_takes [zR 112, zR 128, zI x2, zR 131, zI 0] (SH, (zmu M 128 (Int.toNat (zwr (x2 - 1))) x5), L) (fun _ w => zEx (d + 1) m_mo_turnsAll zb0 Q 137 ([zR 112, zI x1, zI x2, zI x3, zI x4, zI x5], [], w)))) :
    zEx (d + 1) m_mo_turnsAll zb0 Q 113 ([zR 112, zI x1, zI x2, zI x3, zI x4, zI x5], [], SH, M, L) := zEx_run [10, 25, 40, 44, 46, 57, 78, 88, 113, 137, 147, 158] 2 (by decide) (h)
set_option maxRecDepth 20000 in
theorem g_mo_turnsAll_137 {d : Nat} {M L : zM} {Q : Int → zW → Prop} {x1 x2 x3 x4 x5 : Int} 
    (h : zEv d m_mo_numberOf [zR 112, zR 131, zI x2] (SH, M, L) (fun x w => zEx (d + 1) m_mo_turnsAll zb0 Q 147 ([zR 112, zI x1, zI x2, zI x3, zI x4, zI x5], [zI x, zR 112], w))) :
    zEx (d + 1) m_mo_turnsAll zb0 Q 137 ([zR 112, zI x1, zI x2, zI x3, zI x4, zI x5], [], SH, M, L) := zEx_run [10, 25, 40, 44, 46, 57, 78, 88, 113, 137, 147, 158] 2 (by decide) (h)
set_option maxRecDepth 20000 in
theorem g_mo_turnsAll_147 {d : Nat} {M L : zM} {Q : Int → zW → Prop} {x1 x2 x3 x4 x5 sx0 : Int} 
    (h : zck (0 ≤ x3 ∧ x3 < 5040) (zEv d m_mo_finds [zR 112, zI sx0, zI (zwr ((M 139 (Int.toNat x3)) + 1))] (SH, M, L) (fun _ w => zEx (d + 1) m_mo_turnsAll zb0 Q 158 ([zR 112, zI x1, zI x2, zI x3, zI x4, zI x5], [], w)))) :
    zEx (d + 1) m_mo_turnsAll zb0 Q 147 ([zR 112, zI x1, zI x2, zI x3, zI x4, zI x5], [zI sx0, zR 112], SH, M, L) := zEx_run [10, 25, 40, 44, 46, 57, 78, 88, 113, 137, 147, 158] 2 (by decide) (h)
set_option maxRecDepth 20000 in
theorem g_mo_turnsAll_158 {d : Nat} {M L : zM} {Q : Int → zW → Prop} {x1 x2 x3 x4 : Int} {v5 : zV} 
    (h : zEx (d + 1) m_mo_turnsAll zb0 Q 57 ([zR 112, zI x1, zI x2, zI x3, zI (zwr (x4 + 1)), v5], [], SH, M, L)) :
    zEx (d + 1) m_mo_turnsAll zb0 Q 158 ([zR 112, zI x1, zI x2, zI x3, zI x4, v5], [], SH, M, L) := zEx_run [10, 25, 40, 44, 46, 57, 78, 88, 113, 137, 147, 158] 2 (by decide) (h)
set_option maxRecDepth 20000 in
theorem g_mo_turned_0 {d : Nat} {M L : zM} {Q : Int → zW → Prop} {x1 : Int} 
    (h : zEv d m_mo_isWord [zR 112, zI x1] (SH, M, L) (fun x w => zEx (d + 1) m_mo_turned zb0 Q 5 ([zR 112, zI x1], [zI x], w))) :
    zEx (d + 1) m_mo_turned zb0 Q 0 ([zR 112, zI x1], [], SH, M, L) := zEx_run [5, 13, 31, 37] 2 (by decide) (h)
set_option maxRecDepth 20000 in
theorem g_mo_turned_5 {d : Nat} {M L : zM} {Q : Int → zW → Prop} {x1 sx0 : Int} 
    (h : if sx0 = 0 then zEv d m_mo_no [zR 112, zI (-1)] (SH, M, L) (fun x w => zEx (d + 1) m_mo_turned zb0 Q 13 ([zR 112, zI x1], [zI x], w)) else zck (0 ≤ x1 ∧ x1 < 5) (if 7 < M 115 (Int.toNat x1) then zEv d m_mo_no [zR 112, zI (-6)] (SH, M, L) (fun x w => zEx (d + 1) m_mo_turned zb0 Q 31 ([zR 112, zI x1], [zI x], w)) else zEv d m_mo_turnsAll [zR 112, zI x1] (SH, M, L) (fun _ w => zEx (d + 1) m_mo_turned zb0 Q 37 ([zR 112, zI x1], [], w)))) :
    zEx (d + 1) m_mo_turned zb0 Q 5 ([zR 112, zI x1], [zI sx0], SH, M, L) := zEx_run [5, 13, 31, 37] 3 (by decide) (h)
set_option maxRecDepth 20000 in
theorem g_mo_turned_13 {d : Nat} {M L : zM} {Q : Int → zW → Prop} {x1 sx0 : Int} 
    (h : Q sx0 (SH, M, L)) :
    zEx (d + 1) m_mo_turned zb0 Q 13 ([zR 112, zI x1], [zI sx0], SH, M, L) := zEx_run [5, 13, 31, 37] 2 (by decide) (h)
set_option maxRecDepth 20000 in
theorem g_mo_turned_31 {d : Nat} {M L : zM} {Q : Int → zW → Prop} {x1 sx0 : Int} 
    (h : Q sx0 (SH, M, L)) :
    zEx (d + 1) m_mo_turned zb0 Q 31 ([zR 112, zI x1], [zI sx0], SH, M, L) := zEx_run [5, 13, 31, 37] 2 (by decide) (h)
set_option maxRecDepth 20000 in
theorem g_mo_turned_37 {d : Nat} {M L : zM} {Q : Int → zW → Prop} {x1 : Int} 
    (h : Q (M 112 33) (SH, M, L)) :
    zEx (d + 1) m_mo_turned zb0 Q 37 ([zR 112, zI x1], [], SH, M, L) := zEx_run [5, 13, 31, 37] 2 (by decide) (h)
set_option maxRecDepth 20000 in
theorem g_mo_turn_0 {d : Nat} {M L : zM} {Q : Int → zW → Prop} {x1 x2 x3 : Int} 
    (h : zEv d m_mo_isWord [zR 112, zI x1] (SH, M, L) (fun x w => zEx (d + 1) m_mo_turn zb0 Q 5 ([zR 112, zI x1, zI x2, zI x3, zN, zN, zN, zN], [zI x], w))) :
    zEx (d + 1) m_mo_turn zb0 Q 0 ([zR 112, zI x1, zI x2, zI x3, zN, zN, zN, zN], [], SH, M, L) := zEx_run [5, 13, 28, 46, 52, 80, 102, 186] 2 (by decide) (h)
set_option maxRecDepth 20000 in
theorem g_mo_turn_5 {d : Nat} {M L : zM} {Q : Int → zW → Prop} {x1 x2 x3 sx0 : Int} 
    (h : if sx0 = 0 then zEv d m_mo_no [zR 112, zI (-1)] (SH, M, L) (fun x w => zEx (d + 1) m_mo_turn zb0 Q 13 ([zR 112, zI x1, zI x2, zI x3, zN, zN, zN, zN], [zI x], w)) else if x2 < 0 then zEv d m_mo_no [zR 112, zI (-4)] (SH, M, L) (fun x w => zEx (d + 1) m_mo_turn zb0 Q 28 ([zR 112, zI x1, zI x2, zI x3, zN, zN, zN, zN], [zI x], w)) else if x3 < 0 then zEv d m_mo_no [zR 112, zI (-4)] (SH, M, L) (fun x w => zEx (d + 1) m_mo_turn zb0 Q 28 ([zR 112, zI x1, zI x2, zI x3, zN, zN, zN, zN], [zI x], w)) else zck (0 ≤ x1 ∧ x1 < 5) (if 7 < M 115 (Int.toNat x1) then zEv d m_mo_no [zR 112, zI (-6)] (SH, M, L) (fun x w => zEx (d + 1) m_mo_turn zb0 Q 46 ([zR 112, zI x1, zI x2, zI x3, zN, zN, zN, zN], [zI x], w)) else zEv d m_mo_turnsAll [zR 112, zI x1] (SH, M, L) (fun _ w => zEx (d + 1) m_mo_turn zb0 Q 52 ([zR 112, zI x1, zI x2, zI x3, zN, zN, zN, zN], [], w)))) :
    zEx (d + 1) m_mo_turn zb0 Q 5 ([zR 112, zI x1, zI x2, zI x3, zN, zN, zN, zN], [zI sx0], SH, M, L) := zEx_run [5, 13, 28, 46, 52, 80, 102, 186] 4 (by decide) (h)
set_option maxRecDepth 20000 in
theorem g_mo_turn_13 {d : Nat} {M L : zM} {Q : Int → zW → Prop} {x1 x2 x3 sx0 : Int} 
    (h : Q sx0 (SH, M, L)) :
    zEx (d + 1) m_mo_turn zb0 Q 13 ([zR 112, zI x1, zI x2, zI x3, zN, zN, zN, zN], [zI sx0], SH, M, L) := zEx_run [5, 13, 28, 46, 52, 80, 102, 186] 2 (by decide) (h)
set_option maxRecDepth 20000 in
theorem g_mo_turn_28 {d : Nat} {M L : zM} {Q : Int → zW → Prop} {x1 x2 x3 sx0 : Int} 
    (h : Q sx0 (SH, M, L)) :
    zEx (d + 1) m_mo_turn zb0 Q 28 ([zR 112, zI x1, zI x2, zI x3, zN, zN, zN, zN], [zI sx0], SH, M, L) := zEx_run [5, 13, 28, 46, 52, 80, 102, 186] 2 (by decide) (h)
set_option maxRecDepth 20000 in
theorem g_mo_turn_46 {d : Nat} {M L : zM} {Q : Int → zW → Prop} {x1 x2 x3 sx0 : Int} 
    (h : Q sx0 (SH, M, L)) :
    zEx (d + 1) m_mo_turn zb0 Q 46 ([zR 112, zI x1, zI x2, zI x3, zN, zN, zN, zN], [zI sx0], SH, M, L) := zEx_run [5, 13, 28, 46, 52, 80, 102, 186] 2 (by decide) (h)
set_option maxRecDepth 20000 in
theorem g_mo_turn_52 {d : Nat} {M L : zM} {Q : Int → zW → Prop} {x1 x2 x3 : Int} 
    (h : if x2 < M 112 33 then zck (0 ≤ x1 ∧ x1 < 5) (if x3 < M 115 (Int.toNat x1) then zEx (d + 1) m_mo_turn zb0 Q 80 ([zR 112, zI x1, zI x2, zI x3, zI (-9), zI 0, zN, zN], [], SH, M, L) else Q (-9) (SH, M, L)) else Q (-9) (SH, M, L)) :
    zEx (d + 1) m_mo_turn zb0 Q 52 ([zR 112, zI x1, zI x2, zI x3, zN, zN, zN, zN], [], SH, M, L) := zEx_run [5, 13, 28, 46, 52, 80, 102, 186] 3 (by decide) (h)
set_option maxRecDepth 20000 in
theorem g_mo_turn_80 {d : Nat} {M L : zM} {Q : Int → zW → Prop} {x1 x2 x3 x4 x5 : Int} {v6 v7 : zV} 
    (h : if x5 < M 112 33 then if x4 = (-9) then zEx (d + 1) m_mo_turn zb0 Q 102 ([zR 112, zI x1, zI x2, zI x3, zI x4, zI x5, zI 0, zI 0], [], SH, M, L) else zck (0 ≤ x4 ∧ x4 < 5040) (zck (0 ≤ x1 ∧ x1 < 5) (zEv d m_mo_lays_ [zR 112, zI (M 138 (Int.toNat x4)), zR 128, zI (M 115 (Int.toNat x1))] (SH, M, L) (fun _ w => zEx (d + 1) m_mo_turn zb0 Q 186 ([zR 112, zI x1, zI x2, zI x3, zI x4, zI x5, v6, v7], [], w)))) else zck (0 ≤ x4 ∧ x4 < 5040) (zck (0 ≤ x1 ∧ x1 < 5) (zEv d m_mo_lays_ [zR 112, zI (M 138 (Int.toNat x4)), zR 128, zI (M 115 (Int.toNat x1))] (SH, M, L) (fun _ w => zEx (d + 1) m_mo_turn zb0 Q 186 ([zR 112, zI x1, zI x2, zI x3, zI x4, zI x5, v6, v7], [], w))))) :
    zEx (d + 1) m_mo_turn zb0 Q 80 ([zR 112, zI x1, zI x2, zI x3, zI x4, zI x5, v6, v7], [], SH, M, L) := zEx_run [5, 13, 28, 46, 52, 80, 102, 186] 2 (by decide) (h)
set_option maxRecDepth 20000 in
theorem g_mo_turn_102 {d : Nat} {M L : zM} {Q : Int → zW → Prop} {x1 x2 x3 x4 x5 x6 x7 : Int} 
    (h : if x7 < M 112 33 then zck (0 ≤ x7 ∧ x7 < 5040) (zck (0 ≤ x5 ∧ x5 < 5040) (if M 138 (Int.toNat x7) < M 138 (Int.toNat x5) then zEx (d + 1) m_mo_turn zb0 Q 102 ([zR 112, zI x1, zI x2, zI x3, zI x4, zI x5, zI (zwr (x6 + 1)), zI (zwr (x7 + 1))], [], SH, M, L) else zEx (d + 1) m_mo_turn zb0 Q 102 ([zR 112, zI x1, zI x2, zI x3, zI x4, zI x5, zI (zwr (x6 + 0)), zI (zwr (x7 + 1))], [], SH, M, L))) else if x6 = x2 then zEx (d + 1) m_mo_turn zb0 Q 80 ([zR 112, zI x1, zI x2, zI x3, zI x5, zI (zwr (x5 + 1)), zI x6, zI x7], [], SH, M, L) else zEx (d + 1) m_mo_turn zb0 Q 80 ([zR 112, zI x1, zI x2, zI x3, zI (-9), zI (zwr (x5 + 1)), zI x6, zI x7], [], SH, M, L)) :
    zEx (d + 1) m_mo_turn zb0 Q 102 ([zR 112, zI x1, zI x2, zI x3, zI x4, zI x5, zI x6, zI x7], [], SH, M, L) := zEx_run [5, 13, 28, 46, 52, 80, 102, 186] 5 (by decide) (h)
set_option maxRecDepth 20000 in
theorem g_mo_turn_186 {d : Nat} {M L : zM} {Q : Int → zW → Prop} {x1 x2 x3 x4 x5 : Int} {v6 v7 : zV} 
    (h : zck (0 ≤ x3 ∧ x3 < 28) (Q (M 128 (Int.toNat x3)) (SH, M, L))) :
    zEx (d + 1) m_mo_turn zb0 Q 186 ([zR 112, zI x1, zI x2, zI x3, zI x4, zI x5, v6, v7], [], SH, M, L) := zEx_run [5, 13, 28, 46, 52, 80, 102, 186] 2 (by decide) (h)
set_option maxRecDepth 20000 in
theorem g_mo_apart_0 {d : Nat} {M L : zM} {Q : Int → zW → Prop} {x1 x2 : Int} 
    (h : zEv d m_mo_isWord [zR 112, zI x1] (SH, M, L) (fun x w => zEx (d + 1) m_mo_apart zb0 Q 5 ([zR 112, zI x1, zI x2, zN, zN, zN], [zI x], w))) :
    zEx (d + 1) m_mo_apart zb0 Q 0 ([zR 112, zI x1, zI x2, zN, zN, zN], [], SH, M, L) := zEx_run [5, 13, 21, 50, 74, 84, 99, 108, 113] 2 (by decide) (h)
set_option maxRecDepth 20000 in
theorem g_mo_apart_5 {d : Nat} {M L : zM} {Q : Int → zW → Prop} {x1 x2 sx0 : Int} 
    (h : if sx0 = 0 then zEv d m_mo_no [zR 112, zI (-1)] (SH, M, L) (fun x w => zEx (d + 1) m_mo_apart zb0 Q 21 ([zR 112, zI x1, zI x2, zN, zN, zN], [zI x], w)) else zEv d m_mo_isWord [zR 112, zI x2] (SH, M, L) (fun x w => zEx (d + 1) m_mo_apart zb0 Q 13 ([zR 112, zI x1, zI x2, zN, zN, zN], [zI x], w))) :
    zEx (d + 1) m_mo_apart zb0 Q 5 ([zR 112, zI x1, zI x2, zN, zN, zN], [zI sx0], SH, M, L) := zEx_run [5, 13, 21, 50, 74, 84, 99, 108, 113] 2 (by decide) (h)
set_option maxRecDepth 20000 in
theorem g_mo_apart_13 {d : Nat} {M L : zM} {Q : Int → zW → Prop} {x1 x2 sx0 : Int} 
    (h : if sx0 = 0 then zEv d m_mo_no [zR 112, zI (-1)] (SH, M, L) (fun x w => zEx (d + 1) m_mo_apart zb0 Q 21 ([zR 112, zI x1, zI x2, zN, zN, zN], [zI x], w)) else zck (0 ≤ x1 ∧ x1 < 5) (if 7 < M 115 (Int.toNat x1) then zEv d m_mo_no [zR 112, zI (-6)] (SH, M, L) (fun x w => zEx (d + 1) m_mo_apart zb0 Q 50 ([zR 112, zI x1, zI x2, zN, zN, zN], [zI x], w)) else zck (0 ≤ x2 ∧ x2 < 5) (if 7 < M 115 (Int.toNat x2) then zEv d m_mo_no [zR 112, zI (-6)] (SH, M, L) (fun x w => zEx (d + 1) m_mo_apart zb0 Q 50 ([zR 112, zI x1, zI x2, zN, zN, zN], [zI x], w)) else zck (0 ≤ x1 ∧ x1 < 5) (zck (0 ≤ x2 ∧ x2 < 5) (if M 115 (Int.toNat x1) = M 115 (Int.toNat x2) then zEv d m_mo_turnsAll [zR 112, zI x1] (SH, M, L) (fun _ w => zEx (d + 1) m_mo_apart zb0 Q 74 ([zR 112, zI x1, zI x2, zN, zN, zN], [], w)) else Q (-9) (SH, M, L)))))) :
    zEx (d + 1) m_mo_apart zb0 Q 13 ([zR 112, zI x1, zI x2, zN, zN, zN], [zI sx0], SH, M, L) := zEx_run [5, 13, 21, 50, 74, 84, 99, 108, 113] 4 (by decide) (h)
set_option maxRecDepth 20000 in
theorem g_mo_apart_21 {d : Nat} {M L : zM} {Q : Int → zW → Prop} {x1 x2 sx0 : Int} 
    (h : Q sx0 (SH, M, L)) :
    zEx (d + 1) m_mo_apart zb0 Q 21 ([zR 112, zI x1, zI x2, zN, zN, zN], [zI sx0], SH, M, L) := zEx_run [5, 13, 21, 50, 74, 84, 99, 108, 113] 2 (by decide) (h)
set_option maxRecDepth 20000 in
theorem g_mo_apart_50 {d : Nat} {M L : zM} {Q : Int → zW → Prop} {x1 x2 sx0 : Int} 
    (h : Q sx0 (SH, M, L)) :
    zEx (d + 1) m_mo_apart zb0 Q 50 ([zR 112, zI x1, zI x2, zN, zN, zN], [zI sx0], SH, M, L) := zEx_run [5, 13, 21, 50, 74, 84, 99, 108, 113] 2 (by decide) (h)
set_option maxRecDepth 20000 in
theorem g_mo_apart_74 {d : Nat} {M L : zM} {Q : Int → zW → Prop} {x1 x2 : Int} 
    (h : zEv d m_mo_loads [zR 112, zR 129, zI 0, zI x2] (SH, M, L) (fun x w => zEx (d + 1) m_mo_apart zb0 Q 84 ([zR 112, zI x1, zI x2, zN, zN, zN], [zI x], w))) :
    zEx (d + 1) m_mo_apart zb0 Q 74 ([zR 112, zI x1, zI x2, zN, zN, zN], [], SH, M, L) := zEx_run [5, 13, 21, 50, 74, 84, 99, 108, 113] 2 (by decide) (h)
set_option maxRecDepth 20000 in
theorem g_mo_apart_84 {d : Nat} {M L : zM} {Q : Int → zW → Prop} {x1 x2 sx0 : Int} 
    (h : zEv d m_mo_takes [zR 112, zR 129, zI sx0, zR 131, zI 0] (SH, M, L) (fun _ w => zEx (d + 1) m_mo_apart zb0 Q 99 ([zR 112, zI x1, zI x2, zI sx0, zN, zN], [], w))) :
    zEx (d + 1) m_mo_apart zb0 Q 84 ([zR 112, zI x1, zI x2, zN, zN, zN], [zI sx0], SH, M, L) := zEx_run [5, 13, 21, 50, 74, 84, 99, 108, 113] 2 (by decide) (h)
set_option maxRecDepth 20000 in
theorem g_mo_apart_99 {d : Nat} {M L : zM} {Q : Int → zW → Prop} {x1 x2 x3 : Int} 
    (h : zEv d m_mo_numberOf [zR 112, zR 131, zI x3] (SH, M, L) (fun x w => zEx (d + 1) m_mo_apart zb0 Q 108 ([zR 112, zI x1, zI x2, zI x3, zN, zN], [zI x], w))) :
    zEx (d + 1) m_mo_apart zb0 Q 99 ([zR 112, zI x1, zI x2, zI x3, zN, zN], [], SH, M, L) := zEx_run [5, 13, 21, 50, 74, 84, 99, 108, 113] 2 (by decide) (h)
set_option maxRecDepth 20000 in
theorem g_mo_apart_108 {d : Nat} {M L : zM} {Q : Int → zW → Prop} {x1 x2 x3 sx0 : Int} 
    (h : zEx (d + 1) m_mo_apart zb0 Q 113 ([zR 112, zI x1, zI x2, zI x3, zI sx0, zI 0], [], SH, M, L)) :
    zEx (d + 1) m_mo_apart zb0 Q 108 ([zR 112, zI x1, zI x2, zI x3, zN, zN], [zI sx0], SH, M, L) := zEx_run [5, 13, 21, 50, 74, 84, 99, 108, 113] 2 (by decide) (h)
set_option maxRecDepth 20000 in
theorem g_mo_apart_113 {d : Nat} {M L : zM} {Q : Int → zW → Prop} {x1 x2 x3 x4 x5 : Int} 
    (h : if x5 < M 112 33 then zck (0 ≤ x5 ∧ x5 < 5040) (if M 138 (Int.toNat x5) = x4 then zck (0 ≤ x5 ∧ x5 < 5040) (Q (M 139 (Int.toNat x5)) (SH, M, L)) else zEx (d + 1) m_mo_apart zb0 Q 113 ([zR 112, zI x1, zI x2, zI x3, zI x4, zI (zwr (x5 + 1))], [], SH, M, L)) else Q (-9) (SH, M, L)) :
    zEx (d + 1) m_mo_apart zb0 Q 113 ([zR 112, zI x1, zI x2, zI x3, zI x4, zI x5], [], SH, M, L) := zEx_run [5, 13, 21, 50, 74, 84, 99, 108, 113] 3 (by decide) (h)
set_option maxRecDepth 20000 in
theorem g_mo_isFree_0 {d : Nat} {M L : zM} {Q : Int → zW → Prop} {x1 : Int} 
    (h : zEx (d + 1) m_mo_isFree zb0 Q 2 ([zR 112, zI x1, zI 0], [], SH, M, L)) :
    zEx (d + 1) m_mo_isFree zb0 Q 0 ([zR 112, zI x1, zN], [], SH, M, L) := zEx_run [2] 2 (by decide) (h)
set_option maxRecDepth 20000 in
theorem g_mo_isFree_2 {d : Nat} {M L : zM} {Q : Int → zW → Prop} {x1 x2 : Int} 
    (h : if x2 < 6 then if zand (zshr x1 x2) 1 = 1 then zck (0 ≤ x2 ∧ x2 < 6) (if zand (zand x1 (zxor (zshl 1 x2) (-1))) (zxor (M 113 (Int.toNat x2)) (-1)) = 0 then zEx (d + 1) m_mo_isFree zb0 Q 2 ([zR 112, zI x1, zI (zwr (x2 + 1))], [], SH, M, L) else Q 0 (SH, M, L)) else zEx (d + 1) m_mo_isFree zb0 Q 2 ([zR 112, zI x1, zI (zwr (x2 + 1))], [], SH, M, L) else Q 1 (SH, M, L)) :
    zEx (d + 1) m_mo_isFree zb0 Q 2 ([zR 112, zI x1, zI x2], [], SH, M, L) := zEx_run [2] 3 (by decide) (h)
set_option maxRecDepth 20000 in
theorem g_mo_unlike_0 {d : Nat} {M L : zM} {Q : Int → zW → Prop} {x1 x2 : Int} 
    (h : if x1 < 0 then zEv d m_mo_noLong [zR 112, zI (-4)] (SH, M, L) (fun x w => zEx (d + 1) m_mo_unlike zb0 Q 15 ([zR 112, zI x1, zI x2, zN, zN, zN], [zL x], w)) else if x2 < 1 then zEv d m_mo_noLong [zR 112, zI (-4)] (SH, M, L) (fun x w => zEx (d + 1) m_mo_unlike zb0 Q 15 ([zR 112, zI x1, zI x2, zN, zN, zN], [zL x], w)) else if 12 < x1 then zEv d m_mo_noLong [zR 112, zI (-6)] (SH, M, L) (fun x w => zEx (d + 1) m_mo_unlike zb0 Q 34 ([zR 112, zI x1, zI x2, zN, zN, zN], [zL x], w)) else if 6 < x2 then zEv d m_mo_noLong [zR 112, zI (-6)] (SH, M, L) (fun x w => zEx (d + 1) m_mo_unlike zb0 Q 34 ([zR 112, zI x1, zI x2, zN, zN, zN], [zL x], w)) else zEx (d + 1) m_mo_unlike zb0 Q 37 ([zR 112, zI x1, zI x2, zI 0, zN, zN], [], SH, M, L)) :
    zEx (d + 1) m_mo_unlike zb0 Q 0 ([zR 112, zI x1, zI x2, zN, zN, zN], [], SH, M, L) := zEx_run [15, 34, 37, 58, 70, 82, 131, 146] 4 (by decide) (h)
set_option maxRecDepth 20000 in
theorem g_mo_unlike_15 {d : Nat} {M L : zM} {Q : Int → zW → Prop} {x1 x2 sy0 : Int} 
    (h : Q sy0 (SH, M, L)) :
    zEx (d + 1) m_mo_unlike zb0 Q 15 ([zR 112, zI x1, zI x2, zN, zN, zN], [zL sy0], SH, M, L) := zEx_run [15, 34, 37, 58, 70, 82, 131, 146] 2 (by decide) (h)
set_option maxRecDepth 20000 in
theorem g_mo_unlike_34 {d : Nat} {M L : zM} {Q : Int → zW → Prop} {x1 x2 sy0 : Int} 
    (h : Q sy0 (SH, M, L)) :
    zEx (d + 1) m_mo_unlike zb0 Q 34 ([zR 112, zI x1, zI x2, zN, zN, zN], [zL sy0], SH, M, L) := zEx_run [15, 34, 37, 58, 70, 82, 131, 146] 2 (by decide) (h)
set_option maxRecDepth 20000 in
theorem g_mo_unlike_37 {d : Nat} {M L : zM} {Q : Int → zW → Prop} {x1 x2 x3 : Int} 
    (h : if x3 < 6 then zck (0 ≤ x3 ∧ x3 < 6) (zEx (d + 1) m_mo_unlike zb0 Q 37 ([zR 112, zI x1, zI x2, zI (zwr (x3 + 1)), zN, zN], [], SH, (zmu M 137 (Int.toNat x3) 0), L)) else zEx (d + 1) m_mo_unlike zb0 Q 58 ([zR 112, zI x1, zI x2, zI 1, zN, zN], [], SH, M, L)) :
    zEx (d + 1) m_mo_unlike zb0 Q 37 ([zR 112, zI x1, zI x2, zI x3, zN, zN], [], SH, M, L) := zEx_run [15, 34, 37, 58, 70, 82, 131, 146] 3 (by decide) (h)
set_option maxRecDepth 20000 in
theorem g_mo_unlike_58 {d : Nat} {M L : zM} {Q : Int → zW → Prop} {x1 x2 x3 : Int} {v4 v5 : zV} 
    (h : if x3 < zshl 1 x2 then zEv d m_mo_isFree [zR 112, zI x3] (SH, M, L) (fun x w => zEx (d + 1) m_mo_unlike zb0 Q 70 ([zR 112, zI x1, zI x2, zI x3, v4, v5], [zI x], w)) else zEx (d + 1) m_mo_unlike zb0 Q 131 ([zR 112, zI x1, zI x2, zI 1, v4, v5], [], SH, M, (zmu L 135 0 1))) :
    zEx (d + 1) m_mo_unlike zb0 Q 58 ([zR 112, zI x1, zI x2, zI x3, v4, v5], [], SH, M, L) := zEx_run [15, 34, 37, 58, 70, 82, 131, 146] 3 (by decide) (h)
set_option maxRecDepth 20000 in
theorem g_mo_unlike_70 {d : Nat} {M L : zM} {Q : Int → zW → Prop} {x1 x2 x3 sx0 : Int} {v4 v5 : zV} 
    (h : if sx0 = 0 then zEx (d + 1) m_mo_unlike zb0 Q 58 ([zR 112, zI x1, zI x2, zI (zwr (x3 + 1)), v4, v5], [], SH, M, L) else zEx (d + 1) m_mo_unlike zb0 Q 82 ([zR 112, zI x1, zI x2, zI x3, zI (-1), zI 0], [], SH, M, L)) :
    zEx (d + 1) m_mo_unlike zb0 Q 70 ([zR 112, zI x1, zI x2, zI x3, v4, v5], [zI sx0], SH, M, L) := zEx_run [15, 34, 37, 58, 70, 82, 131, 146] 3 (by decide) (h)
set_option maxRecDepth 20000 in
theorem g_mo_unlike_82 {d : Nat} {M L : zM} {Q : Int → zW → Prop} {x1 x2 x3 x4 x5 : Int} 
    (h : if x5 < x2 then zEx (d + 1) m_mo_unlike zb0 Q 82 ([zR 112, zI x1, zI x2, zI x3, zI (zwr (x4 + (zand (zshr x3 x5) 1))), zI (zwr (x5 + 1))], [], SH, M, L) else zck (0 ≤ x4 ∧ x4 < 6) (zck (0 ≤ x4 ∧ x4 < 6) (zEx (d + 1) m_mo_unlike zb0 Q 58 ([zR 112, zI x1, zI x2, zI (zwr (x3 + 1)), zI x4, zI x5], [], SH, (zmu M 137 (Int.toNat x4) (zwr ((M 137 (Int.toNat x4)) + 1))), L)))) :
    zEx (d + 1) m_mo_unlike zb0 Q 82 ([zR 112, zI x1, zI x2, zI x3, zI x4, zI x5], [], SH, M, L) := zEx_run [15, 34, 37, 58, 70, 82, 131, 146] 4 (by decide) (h)
set_option maxRecDepth 20000 in
theorem g_mo_unlike_131 {d : Nat} {M L : zM} {Q : Int → zW → Prop} {x1 x2 x3 : Int} {v4 v5 : zV} 
    (h : if x1 < x3 then zck (0 ≤ x1 ∧ x1 < 16384) (Q (L 135 (Int.toNat x1)) (SH, M, L)) else zck (0 ≤ x3 ∧ x3 < 16384) (zEx (d + 1) m_mo_unlike zb0 Q 146 ([zR 112, zI x1, zI x2, zI x3, zI 1, v5], [], SH, M, (zmu L 135 (Int.toNat x3) 0)))) :
    zEx (d + 1) m_mo_unlike zb0 Q 131 ([zR 112, zI x1, zI x2, zI x3, v4, v5], [], SH, M, L) := zEx_run [15, 34, 37, 58, 70, 82, 131, 146] 2 (by decide) (h)
set_option maxRecDepth 20000 in
theorem g_mo_unlike_146 {d : Nat} {M L : zM} {Q : Int → zW → Prop} {x1 x2 x3 x4 : Int} {v5 : zV} 
    (h : if x3 < x4 then zEx (d + 1) m_mo_unlike zb0 Q 131 ([zR 112, zI x1, zI x2, zI (zwr (x3 + 1)), zI x4, v5], [], SH, M, L) else if 6 < x4 then zEx (d + 1) m_mo_unlike zb0 Q 131 ([zR 112, zI x1, zI x2, zI (zwr (x3 + 1)), zI x4, v5], [], SH, M, L) else zck (0 ≤ x3 ∧ x3 < 16384) (if zrem x4 2 = 1 then zck (0 ≤ zwr (x4 - 1) ∧ zwr (x4 - 1) < 6) (zck (0 ≤ zwr (x3 - x4) ∧ zwr (x3 - x4) < 16384) (zck (0 ≤ x3 ∧ x3 < 16384) (zEx (d + 1) m_mo_unlike zb0 Q 146 ([zR 112, zI x1, zI x2, zI x3, zI (zwr (x4 + 1)), v5], [], SH, M, (zmu L 135 (Int.toNat x3) (zwl ((L 135 (Int.toNat x3)) + (zwl ((M 137 (Int.toNat (zwr (x4 - 1)))) * (L 135 (Int.toNat (zwr (x3 - x4))))))))))))) else zck (0 ≤ zwr (x4 - 1) ∧ zwr (x4 - 1) < 6) (zck (0 ≤ zwr (x3 - x4) ∧ zwr (x3 - x4) < 16384) (zck (0 ≤ x3 ∧ x3 < 16384) (zEx (d + 1) m_mo_unlike zb0 Q 146 ([zR 112, zI x1, zI x2, zI x3, zI (zwr (x4 + 1)), v5], [], SH, M, (zmu L 135 (Int.toNat x3) (zwl ((L 135 (Int.toNat x3)) + (zwl ((zwr (-(M 137 (Int.toNat (zwr (x4 - 1)))))) * (L 135 (Int.toNat (zwr (x3 - x4))))))))))))))) :
    zEx (d + 1) m_mo_unlike zb0 Q 146 ([zR 112, zI x1, zI x2, zI x3, zI x4, v5], [], SH, M, L) := zEx_run [15, 34, 37, 58, 70, 82, 131, 146] 4 (by decide) (h)
set_option maxRecDepth 20000 in
theorem g_mo_free_0 {d : Nat} {M L : zM} {Q : Int → zW → Prop}  
    (h : zEx (d + 1) m_mo_free zb0 Q 4 ([zR 112, zI 0, zI 0], [], SH, M, L)) :
    zEx (d + 1) m_mo_free zb0 Q 0 ([zR 112, zN, zN], [], SH, M, L) := zEx_run [4, 16] 2 (by decide) (h)
set_option maxRecDepth 20000 in
theorem g_mo_free_4 {d : Nat} {M L : zM} {Q : Int → zW → Prop} {x1 x2 : Int} 
    (h : if x2 < 64 then zEv d m_mo_isFree [zR 112, zI x2] (SH, M, L) (fun x w => zEx (d + 1) m_mo_free zb0 Q 16 ([zR 112, zI x1, zI x2], [zI x, zI x1], w)) else Q x1 (SH, M, L)) :
    zEx (d + 1) m_mo_free zb0 Q 4 ([zR 112, zI x1, zI x2], [], SH, M, L) := zEx_run [4, 16] 2 (by decide) (h)
set_option maxRecDepth 20000 in
theorem g_mo_free_16 {d : Nat} {M L : zM} {Q : Int → zW → Prop} {x1 x2 sx0 sx1 : Int} 
    (h : if sx0 = 0 then zEx (d + 1) m_mo_free zb0 Q 4 ([zR 112, zI (zwr (sx1 + 0)), zI (zwr (x2 + 1))], [], SH, M, L) else zEx (d + 1) m_mo_free zb0 Q 4 ([zR 112, zI (zwr (sx1 + 1)), zI (zwr (x2 + 1))], [], SH, M, L)) :
    zEx (d + 1) m_mo_free zb0 Q 16 ([zR 112, zI x1, zI x2], [zI sx0, zI sx1], SH, M, L) := zEx_run [4, 16] 4 (by decide) (h)
set_option maxRecDepth 20000 in
theorem g_mo_lots_0 {d : Nat} {M L : zM} {Q : Int → zW → Prop} {x1 x2 x3 x4 : Int} 
    (h : zEv d m_mo_isWord [zR 112, zI x1] (SH, M, L) (fun x w => zEx (d + 1) m_mo_lots zb0 Q 5 ([zR 112, zI x1, zI x2, zI x3, zI x4, zN, zN, zN, zN, zN, zN], [zI x], w))) :
    zEx (d + 1) m_mo_lots zb0 Q 0 ([zR 112, zI x1, zI x2, zI x3, zI x4, zN, zN, zN, zN, zN, zN], [], SH, M, L) := zEx_run [5, 13, 25, 38, 46, 55, 72, 83, 94, 146, 211] 2 (by decide) (h)
set_option maxRecDepth 20000 in
theorem g_mo_lots_5 {d : Nat} {M L : zM} {Q : Int → zW → Prop} {x1 x2 x3 x4 sx0 : Int} 
    (h : if sx0 = 0 then zEv d m_mo_no [zR 112, zI (-1)] (SH, M, L) (fun x w => zEx (d + 1) m_mo_lots zb0 Q 13 ([zR 112, zI x1, zI x2, zI x3, zI x4, zN, zN, zN, zN, zN, zN], [zI x], w)) else if x2 < 1 then zEv d m_mo_no [zR 112, zI (-4)] (SH, M, L) (fun x w => zEx (d + 1) m_mo_lots zb0 Q 25 ([zR 112, zI x1, zI x2, zI x3, zI x4, zN, zN, zN, zN, zN, zN], [zI x], w)) else if 60 < x2 then zEv d m_mo_no [zR 112, zI (-6)] (SH, M, L) (fun x w => zEx (d + 1) m_mo_lots zb0 Q 38 ([zR 112, zI x1, zI x2, zI x3, zI x4, zN, zN, zN, zN, zN, zN], [zI x], w)) else zEv d m_mo_isIn [zI x4, zI 0, zI 1] (SH, M, L) (fun x w => zEx (d + 1) m_mo_lots zb0 Q 46 ([zR 112, zI x1, zI x2, zI x3, zI x4, zN, zN, zN, zN, zN, zN], [zI x], w))) :
    zEx (d + 1) m_mo_lots zb0 Q 5 ([zR 112, zI x1, zI x2, zI x3, zI x4, zN, zN, zN, zN, zN, zN], [zI sx0], SH, M, L) := zEx_run [5, 13, 25, 38, 46, 55, 72, 83, 94, 146, 211] 4 (by decide) (h)
set_option maxRecDepth 20000 in
theorem g_mo_lots_13 {d : Nat} {M L : zM} {Q : Int → zW → Prop} {x1 x2 x3 x4 sx0 : Int} 
    (h : Q sx0 (SH, M, L)) :
    zEx (d + 1) m_mo_lots zb0 Q 13 ([zR 112, zI x1, zI x2, zI x3, zI x4, zN, zN, zN, zN, zN, zN], [zI sx0], SH, M, L) := zEx_run [5, 13, 25, 38, 46, 55, 72, 83, 94, 146, 211] 2 (by decide) (h)
set_option maxRecDepth 20000 in
theorem g_mo_lots_25 {d : Nat} {M L : zM} {Q : Int → zW → Prop} {x1 x2 x3 x4 sx0 : Int} 
    (h : Q sx0 (SH, M, L)) :
    zEx (d + 1) m_mo_lots zb0 Q 25 ([zR 112, zI x1, zI x2, zI x3, zI x4, zN, zN, zN, zN, zN, zN], [zI sx0], SH, M, L) := zEx_run [5, 13, 25, 38, 46, 55, 72, 83, 94, 146, 211] 2 (by decide) (h)
set_option maxRecDepth 20000 in
theorem g_mo_lots_38 {d : Nat} {M L : zM} {Q : Int → zW → Prop} {x1 x2 x3 x4 sx0 : Int} 
    (h : Q sx0 (SH, M, L)) :
    zEx (d + 1) m_mo_lots zb0 Q 38 ([zR 112, zI x1, zI x2, zI x3, zI x4, zN, zN, zN, zN, zN, zN], [zI sx0], SH, M, L) := zEx_run [5, 13, 25, 38, 46, 55, 72, 83, 94, 146, 211] 2 (by decide) (h)
set_option maxRecDepth 20000 in
theorem g_mo_lots_46 {d : Nat} {M L : zM} {Q : Int → zW → Prop} {x1 x2 x3 x4 sx0 : Int} 
    (h : if sx0 = 0 then zEv d m_mo_no [zR 112, zI (-2)] (SH, M, L) (fun x w => zEx (d + 1) m_mo_lots zb0 Q 55 ([zR 112, zI x1, zI x2, zI x3, zI x4, zN, zN, zN, zN, zN, zN], [zI x], w)) else zck (0 ≤ x1 ∧ x1 < 5) (if M 115 (Int.toNat x1) < 2 then zEv d m_mo_no [zR 112, zI (-3)] (SH, M, L) (fun x w => zEx (d + 1) m_mo_lots zb0 Q 72 ([zR 112, zI x1, zI x2, zI x3, zI x4, zN, zN, zN, zN, zN, zN], [zI x], w)) else zEv d m_mo_loads [zR 112, zR 128, zI 0, zI x1] (SH, M, L) (fun x w => zEx (d + 1) m_mo_lots zb0 Q 83 ([zR 112, zI x1, zI x2, zI x3, zI x4, zN, zN, zN, zN, zN, zN], [zI x], w)))) :
    zEx (d + 1) m_mo_lots zb0 Q 46 ([zR 112, zI x1, zI x2, zI x3, zI x4, zN, zN, zN, zN, zN, zN], [zI sx0], SH, M, L) := zEx_run [5, 13, 25, 38, 46, 55, 72, 83, 94, 146, 211] 3 (by decide) (h)
set_option maxRecDepth 20000 in
theorem g_mo_lots_55 {d : Nat} {M L : zM} {Q : Int → zW → Prop} {x1 x2 x3 x4 sx0 : Int} 
    (h : Q sx0 (SH, M, L)) :
    zEx (d + 1) m_mo_lots zb0 Q 55 ([zR 112, zI x1, zI x2, zI x3, zI x4, zN, zN, zN, zN, zN, zN], [zI sx0], SH, M, L) := zEx_run [5, 13, 25, 38, 46, 55, 72, 83, 94, 146, 211] 2 (by decide) (h)
set_option maxRecDepth 20000 in
theorem g_mo_lots_72 {d : Nat} {M L : zM} {Q : Int → zW → Prop} {x1 x2 x3 x4 sx0 : Int} 
    (h : Q sx0 (SH, M, L)) :
    zEx (d + 1) m_mo_lots zb0 Q 72 ([zR 112, zI x1, zI x2, zI x3, zI x4, zN, zN, zN, zN, zN, zN], [zI sx0], SH, M, L) := zEx_run [5, 13, 25, 38, 46, 55, 72, 83, 94, 146, 211] 2 (by decide) (h)
set_option maxRecDepth 20000 in
theorem g_mo_lots_83 {d : Nat} {M L : zM} {Q : Int → zW → Prop} {x1 x2 x3 x4 sx0 : Int} 
    (h : zEx (d + 1) m_mo_lots zb0 Q 94 ([zR 112, zI x1, zI x2, zI x3, zI x4, zI sx0, zI x3, zI 0, zI 0, zN, zN], [], SH, M, L)) :
    zEx (d + 1) m_mo_lots zb0 Q 83 ([zR 112, zI x1, zI x2, zI x3, zI x4, zN, zN, zN, zN, zN, zN], [zI sx0], SH, M, L) := zEx_run [5, 13, 25, 38, 46, 55, 72, 83, 94, 146, 211] 2 (by decide) (h)
set_option maxRecDepth 20000 in
theorem g_mo_lots_94 {d : Nat} {M L : zM} {Q : Int → zW → Prop} {x1 x2 x3 x4 x5 x6 x7 x8 : Int} {v9 v10 : zV} 
    (h : if x8 < x2 then zck (zwr (x5 - 1) ≠ 0) (zck (0 ≤ zrem (zdiv (zand (zwr ((zwr (x6 * 1664525)) + 1013904223)) 2147483647) 256) (zwr (x5 - 1)) ∧ zrem (zdiv (zand (zwr ((zwr (x6 * 1664525)) + 1013904223)) 2147483647) 256) (zwr (x5 - 1)) < 28) (zck (0 ≤ zwr ((zrem (zdiv (zand (zwr ((zwr (x6 * 1664525)) + 1013904223)) 2147483647) 256) (zwr (x5 - 1))) + 1) ∧ zwr ((zrem (zdiv (zand (zwr ((zwr (x6 * 1664525)) + 1013904223)) 2147483647) 256) (zwr (x5 - 1))) + 1) < 28) (zEv d m_mo_passes_ [zR 112, zI (M 128 (Int.toNat (zrem (zdiv (zand (zwr ((zwr (x6 * 1664525)) + 1013904223)) 2147483647) 256) (zwr (x5 - 1))))), zI (M 128 (Int.toNat (zwr ((zrem (zdiv (zand (zwr ((zwr (x6 * 1664525)) + 1013904223)) 2147483647) 256) (zwr (x5 - 1))) + 1))))] (SH, M, L) (fun x w => zEx (d + 1) m_mo_lots zb0 Q 146 ([zR 112, zI x1, zI x2, zI x3, zI x4, zI x5, zI (zwr ((zwr (x6 * 1664525)) + 1013904223)), zI x7, zI x8, zI (zrem (zdiv (zand (zwr ((zwr (x6 * 1664525)) + 1013904223)) 2147483647) 256) (zwr (x5 - 1))), v10], [zI x], w))))) else if x4 = 0 then Q x7 (SH, M, L) else zEx (d + 1) m_mo_lots zb0 Q 211 ([zR 112, zI x1, zI x2, zI x3, zI x4, zI x5, zI x6, zI x7, zI 0, zI 0, v10], [], SH, M, L)) :
    zEx (d + 1) m_mo_lots zb0 Q 94 ([zR 112, zI x1, zI x2, zI x3, zI x4, zI x5, zI x6, zI x7, zI x8, v9, v10], [], SH, M, L) := zEx_run [5, 13, 25, 38, 46, 55, 72, 83, 94, 146, 211] 4 (by decide) (h)
set_option maxRecDepth 20000 in
theorem g_mo_lots_146 {d : Nat} {M L : zM} {Q : Int → zW → Prop} {x1 x2 x3 x4 x5 x6 x7 x8 x9 sx0 : Int} {v10 : zV} 
    (h : if sx0 = 0 then zEx (d + 1) m_mo_lots zb0 Q 94 ([zR 112, zI x1, zI x2, zI x3, zI x4, zI x5, zI x6, zI x7, zI (zwr (x8 + 1)), zI x9, v10], [], SH, M, L) else zck (0 ≤ x9 ∧ x9 < 28) (zck (0 ≤ zwr (x9 + 1) ∧ zwr (x9 + 1) < 28) (zck (0 ≤ x9 ∧ x9 < 28) (zck (0 ≤ zwr (x9 + 1) ∧ zwr (x9 + 1) < 28) (zEx (d + 1) m_mo_lots zb0 Q 94 ([zR 112, zI x1, zI x2, zI x3, zI x4, zI x5, zI x6, zI (zwr (x7 + 1)), zI (zwr (x8 + 1)), zI x9, zI (M 128 (Int.toNat x9))], [], SH, (zmu (zmu M 128 (Int.toNat x9) (M 128 (Int.toNat (zwr (x9 + 1))))) 128 (Int.toNat (zwr (x9 + 1))) (M 128 (Int.toNat x9))), L)))))) :
    zEx (d + 1) m_mo_lots zb0 Q 146 ([zR 112, zI x1, zI x2, zI x3, zI x4, zI x5, zI x6, zI x7, zI x8, zI x9, v10], [zI sx0], SH, M, L) := zEx_run [5, 13, 25, 38, 46, 55, 72, 83, 94, 146, 211] 4 (by decide) (h)
set_option maxRecDepth 20000 in
theorem g_mo_lots_211 {d : Nat} {M L : zM} {Q : Int → zW → Prop} {x1 x2 x3 x4 x5 x6 x7 x8 x9 : Int} {v10 : zV} 
    (h : if x9 < x5 then zck (0 ≤ x9 ∧ x9 < 28) (zck (0 ≤ zwr ((zwr (14 * x1)) + x9) ∧ zwr ((zwr (14 * x1)) + x9) < 70) (if M 128 (Int.toNat x9) = M 116 (Int.toNat (zwr ((zwr (14 * x1)) + x9))) then zEx (d + 1) m_mo_lots zb0 Q 211 ([zR 112, zI x1, zI x2, zI x3, zI x4, zI x5, zI x6, zI x7, zI (zwr (x8 + 0)), zI (zwr (x9 + 1)), v10], [], SH, M, L) else zEx (d + 1) m_mo_lots zb0 Q 211 ([zR 112, zI x1, zI x2, zI x3, zI x4, zI x5, zI x6, zI x7, zI (zwr (x8 + 1)), zI (zwr (x9 + 1)), v10], [], SH, M, L))) else Q x8 (SH, M, L)) :
    zEx (d + 1) m_mo_lots zb0 Q 211 ([zR 112, zI x1, zI x2, zI x3, zI x4, zI x5, zI x6, zI x7, zI x8, zI x9, v10], [], SH, M, L) := zEx_run [5, 13, 25, 38, 46, 55, 72, 83, 94, 146, 211] 4 (by decide) (h)
set_option maxRecDepth 20000 in
theorem g_mo_isList_0 {d : Nat} {M L : zM} {Q : Int → zW → Prop} {x0 : Int} 
    (h : zEv d m_mo_isIn [zI x0, zI 0, zI 2] (SH, M, L) (fun x w => zEx (d + 1) m_mo_isList zb0 Q 6 ([zI x0], [zI x], w))) :
    zEx (d + 1) m_mo_isList zb0 Q 0 ([zI x0], [], SH, M, L) := zEx_run [6] 2 (by decide) (h)
set_option maxRecDepth 20000 in
theorem g_mo_isList_6 {d : Nat} {M L : zM} {Q : Int → zW → Prop} {x0 sx0 : Int} 
    (h : zbl sx0 (fun b1 => Q b1 (SH, M, L))) :
    zEx (d + 1) m_mo_isList zb0 Q 6 ([zI x0], [zI sx0], SH, M, L) := zEx_run [6] 2 (by decide) (h)
set_option maxRecDepth 20000 in
theorem g_mo_list_0 {d : Nat} {M L : zM} {Q : Int → zW → Prop} {x1 x2 : Int} 
    (h : zEv d m_mo_isList [zI x1] (SH, M, L) (fun x w => zEx (d + 1) m_mo_list zb0 Q 4 ([zR 112, zI x1, zI x2, zN], [zI x], w))) :
    zEx (d + 1) m_mo_list zb0 Q 0 ([zR 112, zI x1, zI x2, zN], [], SH, M, L) := zEx_run [4, 12, 25, 42] 2 (by decide) (h)
set_option maxRecDepth 20000 in
theorem g_mo_list_4 {d : Nat} {M L : zM} {Q : Int → zW → Prop} {x1 x2 sx0 : Int} 
    (h : if sx0 = 0 then zEv d m_mo_no [zR 112, zI (-1)] (SH, M, L) (fun x w => zEx (d + 1) m_mo_list zb0 Q 12 ([zR 112, zI x1, zI x2, zN], [zI x], w)) else if 40 < x2 then zEv d m_mo_no [zR 112, zI (-6)] (SH, M, L) (fun x w => zEx (d + 1) m_mo_list zb0 Q 25 ([zR 112, zI x1, zI x2, zN], [zI x], w)) else if x2 < 0 then Q (-14) (SH, M, L) else zck (0 ≤ x1 ∧ x1 < 3) (zEx (d + 1) m_mo_list zb0 Q 42 ([zR 112, zI x1, zI x2, zI 0], [], SH, (zmu M 124 (Int.toNat x1) x2), L))) :
    zEx (d + 1) m_mo_list zb0 Q 4 ([zR 112, zI x1, zI x2, zN], [zI sx0], SH, M, L) := zEx_run [4, 12, 25, 42] 5 (by decide) (h)
set_option maxRecDepth 20000 in
theorem g_mo_list_12 {d : Nat} {M L : zM} {Q : Int → zW → Prop} {x1 x2 sx0 : Int} 
    (h : Q sx0 (SH, M, L)) :
    zEx (d + 1) m_mo_list zb0 Q 12 ([zR 112, zI x1, zI x2, zN], [zI sx0], SH, M, L) := zEx_run [4, 12, 25, 42] 2 (by decide) (h)
set_option maxRecDepth 20000 in
theorem g_mo_list_25 {d : Nat} {M L : zM} {Q : Int → zW → Prop} {x1 x2 sx0 : Int} 
    (h : Q sx0 (SH, M, L)) :
    zEx (d + 1) m_mo_list zb0 Q 25 ([zR 112, zI x1, zI x2, zN], [zI sx0], SH, M, L) := zEx_run [4, 12, 25, 42] 2 (by decide) (h)
set_option maxRecDepth 20000 in
theorem g_mo_list_42 {d : Nat} {M L : zM} {Q : Int → zW → Prop} {x1 x2 x3 : Int} 
    (h : if x3 < 40 then zck (0 ≤ zwr ((zwr (40 * x1)) + x3) ∧ zwr ((zwr (40 * x1)) + x3) < 120) (zEx (d + 1) m_mo_list zb0 Q 42 ([zR 112, zI x1, zI x2, zI (zwr (x3 + 1))], [], SH, (zmu M 125 (Int.toNat (zwr ((zwr (40 * x1)) + x3))) 0), L)) else Q 1 (SH, M, L)) :
    zEx (d + 1) m_mo_list zb0 Q 42 ([zR 112, zI x1, zI x2, zI x3], [], SH, M, L) := zEx_run [4, 12, 25, 42] 2 (by decide) (h)
set_option maxRecDepth 20000 in
theorem g_mo_put_0 {d : Nat} {M L : zM} {Q : Int → zW → Prop} {x1 x2 x3 : Int} 
    (h : zEv d m_mo_isList [zI x1] (SH, M, L) (fun x w => zEx (d + 1) m_mo_put zb0 Q 4 ([zR 112, zI x1, zI x2, zI x3], [zI x], w))) :
    zEx (d + 1) m_mo_put zb0 Q 0 ([zR 112, zI x1, zI x2, zI x3], [], SH, M, L) := zEx_run [4, 12, 40] 2 (by decide) (h)
set_option maxRecDepth 20000 in
theorem g_mo_put_4 {d : Nat} {M L : zM} {Q : Int → zW → Prop} {x1 x2 x3 sx0 : Int} 
    (h : if sx0 = 0 then zEv d m_mo_no [zR 112, zI (-1)] (SH, M, L) (fun x w => zEx (d + 1) m_mo_put zb0 Q 12 ([zR 112, zI x1, zI x2, zI x3], [zI x], w)) else zck (0 ≤ x1 ∧ x1 < 3) (if M 124 (Int.toNat x1) = (-9) then Q (-11) (SH, M, L) else zck (0 ≤ x1 ∧ x1 < 3) (zEv d m_mo_isIn [zI x2, zI 0, zI (zwr ((M 124 (Int.toNat x1)) - 1))] (SH, M, L) (fun x w => zEx (d + 1) m_mo_put zb0 Q 40 ([zR 112, zI x1, zI x2, zI x3], [zI x], w))))) :
    zEx (d + 1) m_mo_put zb0 Q 4 ([zR 112, zI x1, zI x2, zI x3], [zI sx0], SH, M, L) := zEx_run [4, 12, 40] 3 (by decide) (h)
set_option maxRecDepth 20000 in
theorem g_mo_put_12 {d : Nat} {M L : zM} {Q : Int → zW → Prop} {x1 x2 x3 sx0 : Int} 
    (h : Q sx0 (SH, M, L)) :
    zEx (d + 1) m_mo_put zb0 Q 12 ([zR 112, zI x1, zI x2, zI x3], [zI sx0], SH, M, L) := zEx_run [4, 12, 40] 2 (by decide) (h)
set_option maxRecDepth 20000 in
theorem g_mo_put_40 {d : Nat} {M L : zM} {Q : Int → zW → Prop} {x1 x2 x3 sx0 : Int} 
    (h : if sx0 = 0 then Q (-13) (SH, M, L) else zck (0 ≤ zwr ((zwr (40 * x1)) + x2) ∧ zwr ((zwr (40 * x1)) + x2) < 120) (Q 1 (SH, (zmu M 125 (Int.toNat (zwr ((zwr (40 * x1)) + x2))) x3), L))) :
    zEx (d + 1) m_mo_put zb0 Q 40 ([zR 112, zI x1, zI x2, zI x3], [zI sx0], SH, M, L) := zEx_run [4, 12, 40] 2 (by decide) (h)
set_option maxRecDepth 20000 in
theorem g_mo_look_0 {d : Nat} {M L : zM} {Q : Int → zW → Prop} {x1 x2 : Int} 
    (h : zEv d m_mo_isList [zI x1] (SH, M, L) (fun x w => zEx (d + 1) m_mo_look zb0 Q 4 ([zR 112, zI x1, zI x2], [zI x], w))) :
    zEx (d + 1) m_mo_look zb0 Q 0 ([zR 112, zI x1, zI x2], [], SH, M, L) := zEx_run [4, 12, 41] 2 (by decide) (h)
set_option maxRecDepth 20000 in
theorem g_mo_look_4 {d : Nat} {M L : zM} {Q : Int → zW → Prop} {x1 x2 sx0 : Int} 
    (h : if sx0 = 0 then zEv d m_mo_noLong [zR 112, zI (-1)] (SH, M, L) (fun x w => zEx (d + 1) m_mo_look zb0 Q 12 ([zR 112, zI x1, zI x2], [zL x], w)) else zck (0 ≤ x1 ∧ x1 < 3) (if M 124 (Int.toNat x1) = (-9) then Q 4000000000000000011 (SH, M, L) else zck (0 ≤ x1 ∧ x1 < 3) (zEv d m_mo_isIn [zI x2, zI 0, zI (zwr ((M 124 (Int.toNat x1)) - 1))] (SH, M, L) (fun x w => zEx (d + 1) m_mo_look zb0 Q 41 ([zR 112, zI x1, zI x2], [zI x], w))))) :
    zEx (d + 1) m_mo_look zb0 Q 4 ([zR 112, zI x1, zI x2], [zI sx0], SH, M, L) := zEx_run [4, 12, 41] 3 (by decide) (h)
set_option maxRecDepth 20000 in
theorem g_mo_look_12 {d : Nat} {M L : zM} {Q : Int → zW → Prop} {x1 x2 sy0 : Int} 
    (h : Q sy0 (SH, M, L)) :
    zEx (d + 1) m_mo_look zb0 Q 12 ([zR 112, zI x1, zI x2], [zL sy0], SH, M, L) := zEx_run [4, 12, 41] 2 (by decide) (h)
set_option maxRecDepth 20000 in
theorem g_mo_look_41 {d : Nat} {M L : zM} {Q : Int → zW → Prop} {x1 x2 sx0 : Int} 
    (h : if sx0 = 0 then Q 4000000000000000013 (SH, M, L) else zck (0 ≤ zwr ((zwr (40 * x1)) + x2) ∧ zwr ((zwr (40 * x1)) + x2) < 120) (Q (M 125 (Int.toNat (zwr ((zwr (40 * x1)) + x2)))) (SH, M, L))) :
    zEx (d + 1) m_mo_look zb0 Q 41 ([zR 112, zI x1, zI x2], [zI sx0], SH, M, L) := zEx_run [4, 12, 41] 2 (by decide) (h)
set_option maxRecDepth 20000 in
theorem g_mo_areThere_0 {d : Nat} {M L : zM} {Q : Int → zW → Prop} {x1 x2 x3 : Int} 
    (h : if x3 = 0 then Q 1 (SH, M, L) else if x2 < 0 then Q 0 (SH, M, L) else zck (0 ≤ x1 ∧ x1 < 3) (if 0 < zcmp (zwl (x2 + x3)) (M 124 (Int.toNat x1)) then Q 0 (SH, M, L) else Q 1 (SH, M, L))) :
    zEx (d + 1) m_mo_areThere zb0 Q 0 ([zR 112, zI x1, zI x2, zI x3], [], SH, M, L) := zEx_run [] 3 (by decide) (h)
set_option maxRecDepth 20000 in
theorem g_mo_from_0 {d : Nat} {M L : zM} {Q : Int → zW → Prop} {x1 x2 x3 : Int} 
    (h : zEv d m_mo_isList [zI x1] (SH, M, L) (fun x w => zEx (d + 1) m_mo_from zb0 Q 4 ([zR 112, zI x1, zI x2, zI x3, zN], [zI x], w))) :
    zEx (d + 1) m_mo_from zb0 Q 0 ([zR 112, zI x1, zI x2, zI x3, zN], [], SH, M, L) := zEx_run [4, 12, 23, 44, 66, 75, 112, 121, 137] 2 (by decide) (h)
set_option maxRecDepth 20000 in
theorem g_mo_from_4 {d : Nat} {M L : zM} {Q : Int → zW → Prop} {x1 x2 x3 sx0 : Int} 
    (h : if sx0 = 0 then zEv d m_mo_no [zR 112, zI (-1)] (SH, M, L) (fun x w => zEx (d + 1) m_mo_from zb0 Q 12 ([zR 112, zI x1, zI x2, zI x3, zN], [zI x], w)) else if x3 < 0 then zEv d m_mo_no [zR 112, zI (-4)] (SH, M, L) (fun x w => zEx (d + 1) m_mo_from zb0 Q 23 ([zR 112, zI x1, zI x2, zI x3, zN], [zI x], w)) else if 14 < x3 then zEv d m_mo_no [zR 112, zI (-6)] (SH, M, L) (fun x w => zEx (d + 1) m_mo_from zb0 Q 44 ([zR 112, zI x1, zI x2, zI x3, zN], [zI x], w)) else if M 112 2 = 5 then zEv d m_mo_no [zR 112, zI (-6)] (SH, M, L) (fun x w => zEx (d + 1) m_mo_from zb0 Q 44 ([zR 112, zI x1, zI x2, zI x3, zN], [zI x], w)) else zck (0 ≤ x1 ∧ x1 < 3) (if M 124 (Int.toNat x1) = (-9) then Q (-11) (SH, M, L) else zEv d m_mo_areThere [zR 112, zI x1, zI x2, zI x3] (SH, M, L) (fun x w => zEx (d + 1) m_mo_from zb0 Q 66 ([zR 112, zI x1, zI x2, zI x3, zN], [zI x], w)))) :
    zEx (d + 1) m_mo_from zb0 Q 4 ([zR 112, zI x1, zI x2, zI x3, zN], [zI sx0], SH, M, L) := zEx_run [4, 12, 23, 44, 66, 75, 112, 121, 137] 5 (by decide) (h)
set_option maxRecDepth 20000 in
theorem g_mo_from_12 {d : Nat} {M L : zM} {Q : Int → zW → Prop} {x1 x2 x3 sx0 : Int} 
    (h : Q sx0 (SH, M, L)) :
    zEx (d + 1) m_mo_from zb0 Q 12 ([zR 112, zI x1, zI x2, zI x3, zN], [zI sx0], SH, M, L) := zEx_run [4, 12, 23, 44, 66, 75, 112, 121, 137] 2 (by decide) (h)
set_option maxRecDepth 20000 in
theorem g_mo_from_23 {d : Nat} {M L : zM} {Q : Int → zW → Prop} {x1 x2 x3 sx0 : Int} 
    (h : Q sx0 (SH, M, L)) :
    zEx (d + 1) m_mo_from zb0 Q 23 ([zR 112, zI x1, zI x2, zI x3, zN], [zI sx0], SH, M, L) := zEx_run [4, 12, 23, 44, 66, 75, 112, 121, 137] 2 (by decide) (h)
set_option maxRecDepth 20000 in
theorem g_mo_from_44 {d : Nat} {M L : zM} {Q : Int → zW → Prop} {x1 x2 x3 sx0 : Int} 
    (h : Q sx0 (SH, M, L)) :
    zEx (d + 1) m_mo_from zb0 Q 44 ([zR 112, zI x1, zI x2, zI x3, zN], [zI sx0], SH, M, L) := zEx_run [4, 12, 23, 44, 66, 75, 112, 121, 137] 2 (by decide) (h)
set_option maxRecDepth 20000 in
theorem g_mo_from_66 {d : Nat} {M L : zM} {Q : Int → zW → Prop} {x1 x2 x3 sx0 : Int} 
    (h : if sx0 = 0 then Q (-13) (SH, M, L) else zEx (d + 1) m_mo_from zb0 Q 75 ([zR 112, zI x1, zI x2, zI x3, zI 0], [], SH, M, L)) :
    zEx (d + 1) m_mo_from zb0 Q 66 ([zR 112, zI x1, zI x2, zI x3, zN], [zI sx0], SH, M, L) := zEx_run [4, 12, 23, 44, 66, 75, 112, 121, 137] 3 (by decide) (h)
set_option maxRecDepth 20000 in
theorem g_mo_from_75 {d : Nat} {M L : zM} {Q : Int → zW → Prop} {x1 x2 x3 x4 : Int} 
    (h : if x4 < x3 then zck (0 ≤ zwr ((zwr ((zwr (40 * x1)) + x2)) + x4) ∧ zwr ((zwr ((zwr (40 * x1)) + x2)) + x4) < 120) (zck (0 ≤ x4 ∧ x4 < 28) (zck (0 ≤ x4 ∧ x4 < 28) (zEv d m_mo_isLetter [zI ((zmu M 128 (Int.toNat x4) (M 125 (Int.toNat (zwr ((zwr ((zwr (40 * x1)) + x2)) + x4))))) 128 (Int.toNat x4))] (SH, (zmu M 128 (Int.toNat x4) (M 125 (Int.toNat (zwr ((zwr ((zwr (40 * x1)) + x2)) + x4))))), L) (fun x w => zEx (d + 1) m_mo_from zb0 Q 112 ([zR 112, zI x1, zI x2, zI x3, zI x4], [zI x], w))))) else zEv d m_mo_comes [zR 112, zR 128, zI x3] (SH, M, L) (fun x w => zEx (d + 1) m_mo_from zb0 Q 137 ([zR 112, zI x1, zI x2, zI x3, zI x4], [zI x], w))) :
    zEx (d + 1) m_mo_from zb0 Q 75 ([zR 112, zI x1, zI x2, zI x3, zI x4], [], SH, M, L) := zEx_run [4, 12, 23, 44, 66, 75, 112, 121, 137] 2 (by decide) (h)
set_option maxRecDepth 20000 in
theorem g_mo_from_112 {d : Nat} {M L : zM} {Q : Int → zW → Prop} {x1 x2 x3 x4 sx0 : Int} 
    (h : if sx0 = 0 then zEv d m_mo_no [zR 112, zI (-3)] (SH, M, L) (fun x w => zEx (d + 1) m_mo_from zb0 Q 121 ([zR 112, zI x1, zI x2, zI x3, zI x4], [zI x], w)) else zEx (d + 1) m_mo_from zb0 Q 75 ([zR 112, zI x1, zI x2, zI x3, zI (zwr (x4 + 1))], [], SH, M, L)) :
    zEx (d + 1) m_mo_from zb0 Q 112 ([zR 112, zI x1, zI x2, zI x3, zI x4], [zI sx0], SH, M, L) := zEx_run [4, 12, 23, 44, 66, 75, 112, 121, 137] 3 (by decide) (h)
set_option maxRecDepth 20000 in
theorem g_mo_from_121 {d : Nat} {M L : zM} {Q : Int → zW → Prop} {x1 x2 x3 x4 sx0 : Int} 
    (h : Q sx0 (SH, M, L)) :
    zEx (d + 1) m_mo_from zb0 Q 121 ([zR 112, zI x1, zI x2, zI x3, zI x4], [zI sx0], SH, M, L) := zEx_run [4, 12, 23, 44, 66, 75, 112, 121, 137] 2 (by decide) (h)
set_option maxRecDepth 20000 in
theorem g_mo_from_137 {d : Nat} {M L : zM} {Q : Int → zW → Prop} {x1 x2 x3 x4 sx0 : Int} 
    (h : Q sx0 (SH, M, L)) :
    zEx (d + 1) m_mo_from zb0 Q 137 ([zR 112, zI x1, zI x2, zI x3, zI x4], [zI sx0], SH, M, L) := zEx_run [4, 12, 23, 44, 66, 75, 112, 121, 137] 2 (by decide) (h)
set_option maxRecDepth 20000 in
theorem g_mo_lays_0 {d : Nat} {M L : zM} {Q : Int → zW → Prop} {x1 x2 x3 : Int} 
    (h : zEv d m_mo_isList [zI x1] (SH, M, L) (fun x w => zEx (d + 1) m_mo_lays zb0 Q 4 ([zR 112, zI x1, zI x2, zI x3, zN, zN], [zI x], w))) :
    zEx (d + 1) m_mo_lays zb0 Q 0 ([zR 112, zI x1, zI x2, zI x3, zN, zN], [], SH, M, L) := zEx_run [4, 12, 20, 47, 63, 80, 83] 2 (by decide) (h)
set_option maxRecDepth 20000 in
theorem g_mo_lays_4 {d : Nat} {M L : zM} {Q : Int → zW → Prop} {x1 x2 x3 sx0 : Int} 
    (h : if sx0 = 0 then zEv d m_mo_no [zR 112, zI (-1)] (SH, M, L) (fun x w => zEx (d + 1) m_mo_lays zb0 Q 20 ([zR 112, zI x1, zI x2, zI x3, zN, zN], [zI x], w)) else zEv d m_mo_isWord [zR 112, zI x3] (SH, M, L) (fun x w => zEx (d + 1) m_mo_lays zb0 Q 12 ([zR 112, zI x1, zI x2, zI x3, zN, zN], [zI x], w))) :
    zEx (d + 1) m_mo_lays zb0 Q 4 ([zR 112, zI x1, zI x2, zI x3, zN, zN], [zI sx0], SH, M, L) := zEx_run [4, 12, 20, 47, 63, 80, 83] 2 (by decide) (h)
set_option maxRecDepth 20000 in
theorem g_mo_lays_12 {d : Nat} {M L : zM} {Q : Int → zW → Prop} {x1 x2 x3 sx0 : Int} 
    (h : if sx0 = 0 then zEv d m_mo_no [zR 112, zI (-1)] (SH, M, L) (fun x w => zEx (d + 1) m_mo_lays zb0 Q 20 ([zR 112, zI x1, zI x2, zI x3, zN, zN], [zI x], w)) else zck (0 ≤ x1 ∧ x1 < 3) (if M 124 (Int.toNat x1) = (-9) then Q (-11) (SH, M, L) else zck (0 ≤ x3 ∧ x3 < 5) (zEv d m_mo_areThere [zR 112, zI x1, zI x2, zI (M 115 (Int.toNat x3))] (SH, M, L) (fun x w => zEx (d + 1) m_mo_lays zb0 Q 47 ([zR 112, zI x1, zI x2, zI x3, zN, zN], [zI x], w))))) :
    zEx (d + 1) m_mo_lays zb0 Q 12 ([zR 112, zI x1, zI x2, zI x3, zN, zN], [zI sx0], SH, M, L) := zEx_run [4, 12, 20, 47, 63, 80, 83] 3 (by decide) (h)
set_option maxRecDepth 20000 in
theorem g_mo_lays_20 {d : Nat} {M L : zM} {Q : Int → zW → Prop} {x1 x2 x3 sx0 : Int} 
    (h : Q sx0 (SH, M, L)) :
    zEx (d + 1) m_mo_lays zb0 Q 20 ([zR 112, zI x1, zI x2, zI x3, zN, zN], [zI sx0], SH, M, L) := zEx_run [4, 12, 20, 47, 63, 80, 83] 2 (by decide) (h)
set_option maxRecDepth 20000 in
theorem g_mo_lays_47 {d : Nat} {M L : zM} {Q : Int → zW → Prop} {x1 x2 x3 sx0 : Int} 
    (h : if sx0 = 0 then Q (-13) (SH, M, L) else zEv d m_mo_loads [zR 112, zR 128, zI 0, zI x3] (SH, M, L) (fun x w => zEx (d + 1) m_mo_lays zb0 Q 63 ([zR 112, zI x1, zI x2, zI x3, zN, zN], [zI x], w))) :
    zEx (d + 1) m_mo_lays zb0 Q 47 ([zR 112, zI x1, zI x2, zI x3, zN, zN], [zI sx0], SH, M, L) := zEx_run [4, 12, 20, 47, 63, 80, 83] 2 (by decide) (h)
set_option maxRecDepth 20000 in
theorem g_mo_lays_63 {d : Nat} {M L : zM} {Q : Int → zW → Prop} {x1 x2 x3 sx0 : Int} 
    (h : zEv d m_mo_takes [zR 112, zR 128, zI sx0, zR 131, zI 0] (SH, M, L) (fun _ w => zEx (d + 1) m_mo_lays zb0 Q 80 ([zR 112, zI x1, zI x2, zI x3, zI sx0, zN], [], w))) :
    zEx (d + 1) m_mo_lays zb0 Q 63 ([zR 112, zI x1, zI x2, zI x3, zN, zN], [zI sx0], SH, M, L) := zEx_run [4, 12, 20, 47, 63, 80, 83] 2 (by decide) (h)
set_option maxRecDepth 20000 in
theorem g_mo_lays_80 {d : Nat} {M L : zM} {Q : Int → zW → Prop} {x1 x2 x3 x4 : Int} 
    (h : zEx (d + 1) m_mo_lays zb0 Q 83 ([zR 112, zI x1, zI x2, zI x3, zI x4, zI 0], [], SH, M, L)) :
    zEx (d + 1) m_mo_lays zb0 Q 80 ([zR 112, zI x1, zI x2, zI x3, zI x4, zN], [], SH, M, L) := zEx_run [4, 12, 20, 47, 63, 80, 83] 2 (by decide) (h)
set_option maxRecDepth 20000 in
theorem g_mo_lays_83 {d : Nat} {M L : zM} {Q : Int → zW → Prop} {x1 x2 x3 x4 x5 : Int} 
    (h : if x5 < x4 then zck (0 ≤ x5 ∧ x5 < 28) (zck (0 ≤ zwr ((zwr ((zwr (40 * x1)) + x2)) + x5) ∧ zwr ((zwr ((zwr (40 * x1)) + x2)) + x5) < 120) (zEx (d + 1) m_mo_lays zb0 Q 83 ([zR 112, zI x1, zI x2, zI x3, zI x4, zI (zwr (x5 + 1))], [], SH, (zmu M 125 (Int.toNat (zwr ((zwr ((zwr (40 * x1)) + x2)) + x5))) (M 131 (Int.toNat x5))), L))) else Q x4 (SH, M, L)) :
    zEx (d + 1) m_mo_lays zb0 Q 83 ([zR 112, zI x1, zI x2, zI x3, zI x4, zI x5], [], SH, M, L) := zEx_run [4, 12, 20, 47, 63, 80, 83] 2 (by decide) (h)
