/-! stretches of code -/
set_option maxRecDepth 20000 in
theorem g_jd_numberOfTrailingZeros_0 {d : Nat} {M L : zM} {Q : Int → zW → Prop} {x0 : Int} 
    (h : if 0 < zand (zxor x0 (-1)) (zwr (x0 - 1)) then if 65536 < zand (zxor x0 (-1)) (zwr (x0 - 1)) then if 256 < zushr (zand (zxor x0 (-1)) (zwr (x0 - 1))) 16 then if 16 < zushr (zushr (zand (zxor x0 (-1)) (zwr (x0 - 1))) 16) 8 then if 4 < zushr (zushr (zushr (zand (zxor x0 (-1)) (zwr (x0 - 1))) 16) 8) 4 then Q (zwr ((zwr ((zwr ((zwr ((zwr (1 + 16)) + 8)) + 4)) + 2)) + (zushr (zushr (zushr (zushr (zushr (zand (zxor x0 (-1)) (zwr (x0 - 1))) 16) 8) 4) 2) 1))) (SH, M, L) else Q (zwr ((zwr ((zwr ((zwr (1 + 16)) + 8)) + 4)) + (zushr (zushr (zushr (zushr (zand (zxor x0 (-1)) (zwr (x0 - 1))) 16) 8) 4) 1))) (SH, M, L) else if 4 < zushr (zushr (zand (zxor x0 (-1)) (zwr (x0 - 1))) 16) 8 then Q (zwr ((zwr ((zwr ((zwr (1 + 16)) + 8)) + 2)) + (zushr (zushr (zushr (zushr (zand (zxor x0 (-1)) (zwr (x0 - 1))) 16) 8) 2) 1))) (SH, M, L) else Q (zwr ((zwr ((zwr (1 + 16)) + 8)) + (zushr (zushr (zushr (zand (zxor x0 (-1)) (zwr (x0 - 1))) 16) 8) 1))) (SH, M, L) else if 16 < zushr (zand (zxor x0 (-1)) (zwr (x0 - 1))) 16 then if 4 < zushr (zushr (zand (zxor x0 (-1)) (zwr (x0 - 1))) 16) 4 then Q (zwr ((zwr ((zwr ((zwr (1 + 16)) + 4)) + 2)) + (zushr (zushr (zushr (zushr (zand (zxor x0 (-1)) (zwr (x0 - 1))) 16) 4) 2) 1))) (SH, M, L) else Q (zwr ((zwr ((zwr (1 + 16)) + 4)) + (zushr (zushr (zushr (zand (zxor x0 (-1)) (zwr (x0 - 1))) 16) 4) 1))) (SH, M, L) else if 4 < zushr (zand (zxor x0 (-1)) (zwr (x0 - 1))) 16 then Q (zwr ((zwr ((zwr (1 + 16)) + 2)) + (zushr (zushr (zushr (zand (zxor x0 (-1)) (zwr (x0 - 1))) 16) 2) 1))) (SH, M, L) else Q (zwr ((zwr (1 + 16)) + (zushr (zushr (zand (zxor x0 (-1)) (zwr (x0 - 1))) 16) 1))) (SH, M, L) else if 256 < zand (zxor x0 (-1)) (zwr (x0 - 1)) then if 16 < zushr (zand (zxor x0 (-1)) (zwr (x0 - 1))) 8 then if 4 < zushr (zushr (zand (zxor x0 (-1)) (zwr (x0 - 1))) 8) 4 then Q (zwr ((zwr ((zwr ((zwr (1 + 8)) + 4)) + 2)) + (zushr (zushr (zushr (zushr (zand (zxor x0 (-1)) (zwr (x0 - 1))) 8) 4) 2) 1))) (SH, M, L) else Q (zwr ((zwr ((zwr (1 + 8)) + 4)) + (zushr (zushr (zushr (zand (zxor x0 (-1)) (zwr (x0 - 1))) 8) 4) 1))) (SH, M, L) else if 4 < zushr (zand (zxor x0 (-1)) (zwr (x0 - 1))) 8 then Q (zwr ((zwr ((zwr (1 + 8)) + 2)) + (zushr (zushr (zushr (zand (zxor x0 (-1)) (zwr (x0 - 1))) 8) 2) 1))) (SH, M, L) else Q (zwr ((zwr (1 + 8)) + (zushr (zushr (zand (zxor x0 (-1)) (zwr (x0 - 1))) 8) 1))) (SH, M, L) else if 16 < zand (zxor x0 (-1)) (zwr (x0 - 1)) then if 4 < zushr (zand (zxor x0 (-1)) (zwr (x0 - 1))) 4 then Q (zwr ((zwr ((zwr (1 + 4)) + 2)) + (zushr (zushr (zushr (zand (zxor x0 (-1)) (zwr (x0 - 1))) 4) 2) 1))) (SH, M, L) else Q (zwr ((zwr (1 + 4)) + (zushr (zushr (zand (zxor x0 (-1)) (zwr (x0 - 1))) 4) 1))) (SH, M, L) else if 4 < zand (zxor x0 (-1)) (zwr (x0 - 1)) then Q (zwr ((zwr (1 + 2)) + (zushr (zushr (zand (zxor x0 (-1)) (zwr (x0 - 1))) 2) 1))) (SH, M, L) else Q (zwr (1 + (zushr (zand (zxor x0 (-1)) (zwr (x0 - 1))) 1))) (SH, M, L) else Q (zand (zand (zxor x0 (-1)) (zwr (x0 - 1))) 32) (SH, M, L)) :
    zEx (d + 1) m_jd_numberOfTrailingZeros zb0 Q 0 ([zI x0, zN], [], SH, M, L) := zEx_run [] 6 (by decide) (h)
set_option maxRecDepth 20000 in
theorem g_jd_bitCount_0 {d : Nat} {M L : zM} {Q : Int → zW → Prop} {x0 : Int} 
    (h : Q (zand (zwr ((zwr ((zand (zwr ((zwr ((zand (zwr (x0 - (zand (zushr x0 1) 1431655765))) 858993459) + (zand (zushr (zwr (x0 - (zand (zushr x0 1) 1431655765))) 2) 858993459))) + (zushr (zwr ((zand (zwr (x0 - (zand (zushr x0 1) 1431655765))) 858993459) + (zand (zushr (zwr (x0 - (zand (zushr x0 1) 1431655765))) 2) 858993459))) 4))) 252645135) + (zushr (zand (zwr ((zwr ((zand (zwr (x0 - (zand (zushr x0 1) 1431655765))) 858993459) + (zand (zushr (zwr (x0 - (zand (zushr x0 1) 1431655765))) 2) 858993459))) + (zushr (zwr ((zand (zwr (x0 - (zand (zushr x0 1) 1431655765))) 858993459) + (zand (zushr (zwr (x0 - (zand (zushr x0 1) 1431655765))) 2) 858993459))) 4))) 252645135) 8))) + (zushr (zwr ((zand (zwr ((zwr ((zand (zwr (x0 - (zand (zushr x0 1) 1431655765))) 858993459) + (zand (zushr (zwr (x0 - (zand (zushr x0 1) 1431655765))) 2) 858993459))) + (zushr (zwr ((zand (zwr (x0 - (zand (zushr x0 1) 1431655765))) 858993459) + (zand (zushr (zwr (x0 - (zand (zushr x0 1) 1431655765))) 2) 858993459))) 4))) 252645135) + (zushr (zand (zwr ((zwr ((zand (zwr (x0 - (zand (zushr x0 1) 1431655765))) 858993459) + (zand (zushr (zwr (x0 - (zand (zushr x0 1) 1431655765))) 2) 858993459))) + (zushr (zwr ((zand (zwr (x0 - (zand (zushr x0 1) 1431655765))) 858993459) + (zand (zushr (zwr (x0 - (zand (zushr x0 1) 1431655765))) 2) 858993459))) 4))) 252645135) 8))) 16))) 63) (SH, M, L)) :
    zEx (d + 1) m_jd_bitCount zb0 Q 0 ([zI x0], [], SH, M, L) := zEx_run [] 2 (by decide) (h)
set_option maxRecDepth 20000 in
theorem g_ro_size_0 {d : Nat} {M L : zM} {Q : Int → zW → Prop} {r0 : Nat} (hr0 : zRow r0)
    (h : Q (M r0 1) (SH, M, L)) :
    zEx (d + 1) m_ro_size zb0 Q 0 ([zR r0], [], SH, M, L) := zEx_run [] 2 (by decide) (zkq_i hr0.1 (h))
set_option maxRecDepth 20000 in
theorem g_ro_get_0 {d : Nat} {M L : zM} {Q : Int → zW → Prop} {r0 : Nat} {x1 : Int} (hr0 : zRow r0)
    (h : if x1 < 0 then Q (-9) (SH, M, L) else if x1 < M r0 1 then zck (0 ≤ x1 ∧ x1 < zln SH (r0 + 1)) (Q (M (r0 + 1) (Int.toNat x1)) (SH, M, L)) else Q (-9) (SH, M, L)) :
    zEx (d + 1) m_ro_get zb0 Q 0 ([zR r0, zI x1], [], SH, M, L) := zEx_run [] 3 (by decide) (zit (c := x1 < 0) h (fun h => h) (fun h => zkq_i hr0.1 (zit (c := x1 < M r0 1) h (fun h => zkq_i hr0.1 (zom_i hr0.2.1 (zixm hr0.2.2.1 h (fun h => h)))) (fun h => h))))
set_option maxRecDepth 20000 in
theorem g_ro_set_0 {d : Nat} {M L : zM} {Q : Int → zW → Prop} {r0 : Nat} {x1 x2 : Int} (hr0 : zRow r0)
    (h : if x1 < 0 then Q 0 (SH, M, L) else if x1 < M r0 1 then zck (0 ≤ x1 ∧ x1 < zln SH (r0 + 1)) (Q 0 (SH, (zmu M (r0 + 1) (Int.toNat x1) x2), L)) else Q 0 (SH, M, L)) :
    zEx (d + 1) m_ro_set zb0 Q 0 ([zR r0, zI x1, zI x2], [], SH, M, L) := zEx_run [] 2 (by decide) (zit (c := x1 < 0) h (fun h => h) (fun h => zkq_i hr0.1 (zit (c := x1 < M r0 1) h (fun h => zkq_i hr0.1 (zom_i hr0.2.1 (zixm hr0.2.2.1 h (fun h => h)))) (fun h => h))))
set_option maxRecDepth 20000 in
theorem g_ro_has_0 {d : Nat} {M L : zM} {Q : Int → zW → Prop} {r0 : Nat} {x1 x2 : Int} (hr0 : zRow r0)
    (h : if x2 = 0 then Q 1 (SH, M, L) else if x1 < 0 then Q 0 (SH, M, L) else if 0 < x2 then if 0 < zcmp (zwl (x1 + x2)) (M r0 1) then Q 0 (SH, M, L) else Q 1 (SH, M, L) else Q 0 (SH, M, L)) :
    zEx (d + 1) m_ro_has zb0 Q 0 ([zR r0, zI x1, zI x2], [], SH, M, L) := zEx_run [] 3 (by decide) (zit (c := x2 = 0) h (fun h => h) (fun h => zit (c := x1 < 0) h (fun h => h) (fun h => zit (c := 0 < x2) h (fun h => zkq_i hr0.1 (h)) (fun h => h))))
set_option maxRecDepth 20000 in
theorem g_ro_clear_0 {d : Nat} {M L : zM} {Q : Int → zW → Prop} {r0 : Nat} (hr0 : zRow r0)
    (h : Q 0 (SH, (zmu M r0 1 0), L)) :
    zEx (d + 1) m_ro_clear zb0 Q 0 ([zR r0], [], SH, M, L) := zEx_run [] 2 (by decide) (zkq_i hr0.1 (h))
set_option maxRecDepth 20000 in
theorem g_ro_shorten_0 {d : Nat} {M L : zM} {Q : Int → zW → Prop} {r0 : Nat} {x1 : Int} (hr0 : zRow r0)
    (h : if x1 < 0 then Q 0 (SH, M, L) else if x1 < M r0 1 then Q 0 (SH, (zmu M r0 1 x1), L) else Q 0 (SH, M, L)) :
    zEx (d + 1) m_ro_shorten zb0 Q 0 ([zR r0, zI x1], [], SH, M, L) := zEx_run [] 2 (by decide) (zit (c := x1 < 0) h (fun h => h) (fun h => zkq_i hr0.1 (zit (c := x1 < M r0 1) h (fun h => zkq_i hr0.1 (h)) (fun h => h))))
set_option maxRecDepth 20000 in
theorem g_ro_add_0 {d : Nat} {M L : zM} {Q : Int → zW → Prop} {r0 : Nat} {x1 : Int} (hr0 : zRow r0)
    (h : if M r0 1 < zln SH (r0 + 1) then zck (0 ≤ M r0 1 ∧ M r0 1 < zln SH (r0 + 1)) (Q 0 (SH, (zmu (zmu M (r0 + 1) (Int.toNat (M r0 1)) x1) r0 1 (zwr (((zmu M (r0 + 1) (Int.toNat (M r0 1)) x1) r0 1) + 1))), L)) else Q 0 (SH, M, L)) :
    zEx (d + 1) m_ro_add zb0 Q 0 ([zR r0, zI x1], [], SH, M, L) := zEx_run [] 2 (by decide) (zkq_i hr0.1 (zkq_i hr0.1 (zom_i hr0.2.1 (zar hr0.2.2.1 (zit (c := M r0 1 < zln SH (r0 + 1)) h (fun h => zkq_i hr0.1 (zom_i hr0.2.1 (zkq_i hr0.1 (zixm hr0.2.2.1 h (fun h => zkq_i hr0.1 (zkq_i hr0.1 (h))))))) (fun h => h))))))
set_option maxRecDepth 20000 in
theorem g_ro_insert_0 {d : Nat} {M L : zM} {Q : Int → zW → Prop} {r0 : Nat} {x1 x2 : Int} (hr0 : zRow r0)
    (h : if x1 < 0 then Q 0 (SH, M, L) else if M r0 1 < x1 then Q 0 (SH, M, L) else if M r0 1 < zln SH (r0 + 1) then zEx (d + 1) m_ro_insert zb0 Q 30 ([zR r0, zI x1, zI x2, zI (M r0 1)], [], SH, M, L) else Q 0 (SH, M, L)) :
    zEx (d + 1) m_ro_insert zb0 Q 0 ([zR r0, zI x1, zI x2, zN], [], SH, M, L) := zEx_run [30] 3 (by decide) (zit (c := x1 < 0) h (fun h => h) (fun h => zkq_i hr0.1 (zit (c := M r0 1 < x1) h (fun h => h) (fun h => zkq_i hr0.1 (zkq_i hr0.1 (zom_i hr0.2.1 (zar hr0.2.2.1 (zit (c := M r0 1 < zln SH (r0 + 1)) h (fun h => zkq_i hr0.1 (h)) (fun h => h)))))))))
set_option maxRecDepth 20000 in
theorem g_ro_insert_30 {d : Nat} {M L : zM} {Q : Int → zW → Prop} {r0 : Nat} {x1 x2 x3 : Int} (hr0 : zRow r0)
    (h : if x1 < x3 then zck (0 ≤ zwr (x3 - 1) ∧ zwr (x3 - 1) < zln SH (r0 + 1)) (zck (0 ≤ x3 ∧ x3 < zln SH (r0 + 1)) (zEx (d + 1) m_ro_insert zb0 Q 30 ([zR r0, zI x1, zI x2, zI (zwr (x3 + (-1)))], [], SH, (zmu M (r0 + 1) (Int.toNat x3) (M (r0 + 1) (Int.toNat (zwr (x3 - 1))))), L))) else zck (0 ≤ x1 ∧ x1 < zln SH (r0 + 1)) (Q 0 (SH, (zmu (zmu M (r0 + 1) (Int.toNat x1) x2) r0 1 (zwr (((zmu M (r0 + 1) (Int.toNat x1) x2) r0 1) + 1))), L))) :
    zEx (d + 1) m_ro_insert zb0 Q 30 ([zR r0, zI x1, zI x2, zI x3], [], SH, M, L) := zEx_run [30] 2 (by decide) (zit (c := x1 < x3) h (fun h => zkq_i hr0.1 (zom_i hr0.2.1 (zkq_i hr0.1 (zom_i hr0.2.1 (zixm hr0.2.2.1 h (fun h => zixm hr0.2.2.1 h (fun h => h))))))) (fun h => zkq_i hr0.1 (zom_i hr0.2.1 (zixm hr0.2.2.1 h (fun h => zkq_i hr0.1 (zkq_i hr0.1 (h)))))))
set_option maxRecDepth 20000 in
theorem g_ro_addTimes_0 {d : Nat} {M L : zM} {Q : Int → zW → Prop} {r0 : Nat} {x1 x2 : Int} (hr0 : zRow r0)
    (h : zEx (d + 1) m_ro_addTimes zb0 Q 13 ([zR r0, zI x1, zI x2, zI (zmin x2 (zln SH (r0 + 1))), zI 0], [], SH, M, L)) :
    zEx (d + 1) m_ro_addTimes zb0 Q 0 ([zR r0, zI x1, zI x2, zN, zN], [], SH, M, L) := zEx_run [13, 24] 2 (by decide) (zkq_i hr0.1 (zom_i hr0.2.1 (zar hr0.2.2.1 (h))))
set_option maxRecDepth 20000 in
theorem g_ro_addTimes_13 {d : Nat} {M L : zM} {Q : Int → zW → Prop} {r0 : Nat} {x1 x2 x3 x4 : Int} (hr0 : zRow r0)
    (h : if x4 < x3 then zEv d m_ro_add [zR r0, zI x1] (SH, M, L) (fun _ w => zEx (d + 1) m_ro_addTimes zb0 Q 24 ([zR r0, zI x1, zI x2, zI x3, zI x4], [], w)) else Q 0 (SH, M, L)) :
    zEx (d + 1) m_ro_addTimes zb0 Q 13 ([zR r0, zI x1, zI x2, zI x3, zI x4], [], SH, M, L) := zEx_run [13, 24] 2 (by decide) (zit (c := x4 < x3) h (fun h => zkq_i hr0.1 (h)) (fun h => h))
set_option maxRecDepth 20000 in
theorem g_ro_addTimes_24 {d : Nat} {M L : zM} {Q : Int → zW → Prop} {r0 : Nat} {x1 x2 x3 x4 : Int} (hr0 : zRow r0)
    (h : zEx (d + 1) m_ro_addTimes zb0 Q 13 ([zR r0, zI x1, zI x2, zI x3, zI (zwr (x4 + 1))], [], SH, M, L)) :
    zEx (d + 1) m_ro_addTimes zb0 Q 24 ([zR r0, zI x1, zI x2, zI x3, zI x4], [], SH, M, L) := zEx_run [13, 24] 2 (by decide) (h)
set_option maxRecDepth 20000 in
theorem g_ro_append_0 {d : Nat} {M L : zM} {Q : Int → zW → Prop} {r0 r1 : Nat} (hr0 : zRow r0) (hr1 : zRow r1)
    (h : zEv d m_ro_appendPiece [zR r0, zR r1, zI 0, zI (M r1 1)] (SH, M, L) (fun _ w => zEx (d + 1) m_ro_append zb0 Q 10 ([zR r0, zR r1], [], w))) :
    zEx (d + 1) m_ro_append zb0 Q 0 ([zR r0, zR r1], [], SH, M, L) := zEx_run [10] 2 (by decide) (zkq_i hr1.1 (zkq_i hr0.1 (h)))
set_option maxRecDepth 20000 in
theorem g_ro_append_10 {d : Nat} {M L : zM} {Q : Int → zW → Prop} {r0 r1 : Nat} (hr0 : zRow r0) (hr1 : zRow r1)
    (h : Q 0 (SH, M, L)) :
    zEx (d + 1) m_ro_append zb0 Q 10 ([zR r0, zR r1], [], SH, M, L) := zEx_run [10] 2 (by decide) (h)
set_option maxRecDepth 20000 in
theorem g_ro_appendPiece_0 {d : Nat} {M L : zM} {Q : Int → zW → Prop} {r0 r1 : Nat} {x2 x3 : Int} (hr0 : zRow r0) (hr1 : zRow r1)
    (h : zEv d m_ro_has [zR r1, zI x2, zI x3] (SH, M, L) (fun x w => zEx (d + 1) m_ro_appendPiece zb0 Q 6 ([zR r0, zR r1, zI x2, zI x3, zN, zN], [zI x], w))) :
    zEx (d + 1) m_ro_appendPiece zb0 Q 0 ([zR r0, zR r1, zI x2, zI x3, zN, zN], [], SH, M, L) := zEx_run [6, 29] 2 (by decide) (zkq_i hr1.1 (h))
set_option maxRecDepth 20000 in
theorem g_ro_appendPiece_6 {d : Nat} {M L : zM} {Q : Int → zW → Prop} {r0 r1 : Nat} {x2 x3 sx0 : Int} (hr0 : zRow r0) (hr1 : zRow r1)
    (h : if sx0 = 0 then Q 0 (SH, M, L) else zEx (d + 1) m_ro_appendPiece zb0 Q 29 ([zR r0, zR r1, zI x2, zI x3, zI (zmin x3 (zwr ((zln SH (r0 + 1)) - (M r0 1)))), zI 0], [], SH, M, L)) :
    zEx (d + 1) m_ro_appendPiece zb0 Q 6 ([zR r0, zR r1, zI x2, zI x3, zN, zN], [zI sx0], SH, M, L) := zEx_run [6, 29] 3 (by decide) (zit (c := sx0 = 0) h (fun h => h) (fun h => zkq_i hr0.1 (zom_i hr0.2.1 (zar hr0.2.2.1 (zkq_i hr0.1 (h))))))
set_option maxRecDepth 20000 in
theorem g_ro_appendPiece_29 {d : Nat} {M L : zM} {Q : Int → zW → Prop} {r0 r1 : Nat} {x2 x3 x4 x5 : Int} (hr0 : zRow r0) (hr1 : zRow r1)
    (h : if x5 < x4 then zck (0 ≤ zwr (x2 + x5) ∧ zwr (x2 + x5) < zln SH (r1 + 1)) (zck (0 ≤ zwr ((M r0 1) + x5) ∧ zwr ((M r0 1) + x5) < zln SH (r0 + 1)) (zEx (d + 1) m_ro_appendPiece zb0 Q 29 ([zR r0, zR r1, zI x2, zI x3, zI x4, zI (zwr (x5 + 1))], [], SH, (zmu M (r0 + 1) (Int.toNat (zwr ((M r0 1) + x5))) (M (r1 + 1) (Int.toNat (zwr (x2 + x5))))), L))) else Q 0 (SH, (zmu M r0 1 (zwr ((M r0 1) + x4))), L)) :
    zEx (d + 1) m_ro_appendPiece zb0 Q 29 ([zR r0, zR r1, zI x2, zI x3, zI x4, zI x5], [], SH, M, L) := zEx_run [6, 29] 2 (by decide) (zit (c := x5 < x4) h (fun h => zkq_i hr0.1 (zom_i hr0.2.1 (zkq_i hr0.1 (zkq_i hr1.1 (zom_i hr1.2.1 (zixm hr1.2.2.1 h (fun h => zixm hr0.2.2.1 h (fun h => h)))))))) (fun h => zkq_i hr0.1 (zkq_i hr0.1 (h))))
set_option maxRecDepth 20000 in
theorem g_ro_appendTimes_0 {d : Nat} {M L : zM} {Q : Int → zW → Prop} {r0 r1 : Nat} {x2 : Int} (hr0 : zRow r0) (hr1 : zRow r1)
    (h : zEx (d + 1) m_ro_appendTimes zb0 Q 13 ([zR r0, zR r1, zI x2, zI (zmin x2 (zln SH (r0 + 1))), zI 0], [], SH, M, L)) :
    zEx (d + 1) m_ro_appendTimes zb0 Q 0 ([zR r0, zR r1, zI x2, zN, zN], [], SH, M, L) := zEx_run [13, 24] 2 (by decide) (zkq_i hr0.1 (zom_i hr0.2.1 (zar hr0.2.2.1 (h))))
set_option maxRecDepth 20000 in
theorem g_ro_appendTimes_13 {d : Nat} {M L : zM} {Q : Int → zW → Prop} {r0 r1 : Nat} {x2 x3 x4 : Int} (hr0 : zRow r0) (hr1 : zRow r1)
    (h : if x4 < x3 then zEv d m_ro_append [zR r0, zR r1] (SH, M, L) (fun _ w => zEx (d + 1) m_ro_appendTimes zb0 Q 24 ([zR r0, zR r1, zI x2, zI x3, zI x4], [], w)) else Q 0 (SH, M, L)) :
    zEx (d + 1) m_ro_appendTimes zb0 Q 13 ([zR r0, zR r1, zI x2, zI x3, zI x4], [], SH, M, L) := zEx_run [13, 24] 2 (by decide) (zit (c := x4 < x3) h (fun h => zkq_i hr0.1 (h)) (fun h => h))
set_option maxRecDepth 20000 in
theorem g_ro_appendTimes_24 {d : Nat} {M L : zM} {Q : Int → zW → Prop} {r0 r1 : Nat} {x2 x3 x4 : Int} (hr0 : zRow r0) (hr1 : zRow r1)
    (h : zEx (d + 1) m_ro_appendTimes zb0 Q 13 ([zR r0, zR r1, zI x2, zI x3, zI (zwr (x4 + 1))], [], SH, M, L)) :
    zEx (d + 1) m_ro_appendTimes zb0 Q 24 ([zR r0, zR r1, zI x2, zI x3, zI x4], [], SH, M, L) := zEx_run [13, 24] 2 (by decide) (h)
set_option maxRecDepth 20000 in
theorem g_ro_appendOnly_0 {d : Nat} {M L : zM} {Q : Int → zW → Prop} {r0 r1 : Nat} {x2 : Int} (hr0 : zRow r0) (hr1 : zRow r1)
    (h : zEx (d + 1) m_ro_appendOnly zb0 Q 2 ([zR r0, zR r1, zI x2, zI 0, zN], [], SH, M, L)) :
    zEx (d + 1) m_ro_appendOnly zb0 Q 0 ([zR r0, zR r1, zI x2, zN, zN], [], SH, M, L) := zEx_run [2, 15, 33] 2 (by decide) (h)
set_option maxRecDepth 20000 in
theorem g_ro_appendOnly_2 {d : Nat} {M L : zM} {Q : Int → zW → Prop} {r0 r1 : Nat} {x2 x3 : Int} {v4 : zV} (hr0 : zRow r0) (hr1 : zRow r1)
    (h : if x3 < M r1 1 then zEv d m_ro_get [zR r1, zI x3] (SH, M, L) (fun x w => zEx (d + 1) m_ro_appendOnly zb0 Q 15 ([zR r0, zR r1, zI x2, zI x3, v4], [zI x], w)) else Q 0 (SH, M, L)) :
    zEx (d + 1) m_ro_appendOnly zb0 Q 2 ([zR r0, zR r1, zI x2, zI x3, v4], [], SH, M, L) := zEx_run [2, 15, 33] 2 (by decide) (zkq_i hr1.1 (zit (c := x3 < M r1 1) h (fun h => zkq_i hr1.1 (h)) (fun h => h)))
set_option maxRecDepth 20000 in
theorem g_ro_appendOnly_15 {d : Nat} {M L : zM} {Q : Int → zW → Prop} {r0 r1 : Nat} {x2 x3 sx0 : Int} {v4 : zV} (hr0 : zRow r0) (hr1 : zRow r1)
    (h : if zand (zshr x2 sx0) 1 = 1 then zEv d m_ro_add [zR r0, zI sx0] (SH, M, L) (fun _ w => zEx (d + 1) m_ro_appendOnly zb0 Q 33 ([zR r0, zR r1, zI x2, zI x3, zI sx0], [], w)) else zEx (d + 1) m_ro_appendOnly zb0 Q 33 ([zR r0, zR r1, zI x2, zI x3, zI sx0], [], SH, M, L)) :
    zEx (d + 1) m_ro_appendOnly zb0 Q 15 ([zR r0, zR r1, zI x2, zI x3, v4], [zI sx0], SH, M, L) := zEx_run [2, 15, 33] 2 (by decide) (zit (c := zand (zshr x2 sx0) 1 = 1) h (fun h => zkq_i hr0.1 (h)) (fun h => h))
set_option maxRecDepth 20000 in
theorem g_ro_appendOnly_33 {d : Nat} {M L : zM} {Q : Int → zW → Prop} {r0 r1 : Nat} {x2 x3 x4 : Int} (hr0 : zRow r0) (hr1 : zRow r1)
    (h : zEx (d + 1) m_ro_appendOnly zb0 Q 2 ([zR r0, zR r1, zI x2, zI (zwr (x3 + 1)), zI x4], [], SH, M, L)) :
    zEx (d + 1) m_ro_appendOnly zb0 Q 33 ([zR r0, zR r1, zI x2, zI x3, zI x4], [], SH, M, L) := zEx_run [2, 15, 33] 2 (by decide) (h)
set_option maxRecDepth 20000 in
theorem g_ro_copy_0 {d : Nat} {M L : zM} {Q : Int → zW → Prop} {r0 r1 : Nat} (hr0 : zRow r0) (hr1 : zRow r1)
    (h : zEv d m_ro_clear [zR r0] (SH, M, L) (fun _ w => zEx (d + 1) m_ro_copy zb0 Q 4 ([zR r0, zR r1], [], w))) :
    zEx (d + 1) m_ro_copy zb0 Q 0 ([zR r0, zR r1], [], SH, M, L) := zEx_run [4, 14] 2 (by decide) (zkq_i hr0.1 (h))
set_option maxRecDepth 20000 in
theorem g_ro_copy_4 {d : Nat} {M L : zM} {Q : Int → zW → Prop} {r0 r1 : Nat} (hr0 : zRow r0) (hr1 : zRow r1)
    (h : zEv d m_ro_appendPiece [zR r0, zR r1, zI 0, zI (M r1 1)] (SH, M, L) (fun _ w => zEx (d + 1) m_ro_copy zb0 Q 14 ([zR r0, zR r1], [], w))) :
    zEx (d + 1) m_ro_copy zb0 Q 4 ([zR r0, zR r1], [], SH, M, L) := zEx_run [4, 14] 2 (by decide) (zkq_i hr1.1 (zkq_i hr0.1 (h)))
set_option maxRecDepth 20000 in
theorem g_ro_copy_14 {d : Nat} {M L : zM} {Q : Int → zW → Prop} {r0 r1 : Nat} (hr0 : zRow r0) (hr1 : zRow r1)
    (h : Q 0 (SH, M, L)) :
    zEx (d + 1) m_ro_copy zb0 Q 14 ([zR r0, zR r1], [], SH, M, L) := zEx_run [4, 14] 2 (by decide) (h)
set_option maxRecDepth 20000 in
theorem g_ro_overwrite_0 {d : Nat} {M L : zM} {Q : Int → zW → Prop} {r0 r2 : Nat} {x1 : Int} (hr0 : zRow r0) (hr2 : zRow r2)
    (h : zEx (d + 1) m_ro_overwrite zb0 Q 2 ([zR r0, zI x1, zR r2, zI 0], [], SH, M, L)) :
    zEx (d + 1) m_ro_overwrite zb0 Q 0 ([zR r0, zI x1, zR r2, zN], [], SH, M, L) := zEx_run [2, 19, 22] 2 (by decide) (h)
set_option maxRecDepth 20000 in
theorem g_ro_overwrite_2 {d : Nat} {M L : zM} {Q : Int → zW → Prop} {r0 r2 : Nat} {x1 x3 : Int} (hr0 : zRow r0) (hr2 : zRow r2)
    (h : if x3 < M r2 1 then zEv d m_ro_get [zR r2, zI x3] (SH, M, L) (fun x w => zEx (d + 1) m_ro_overwrite zb0 Q 19 ([zR r0, zI x1, zR r2, zI x3], [zI x, zI (zwr (x1 + x3)), zR r0], w)) else Q 0 (SH, M, L)) :
    zEx (d + 1) m_ro_overwrite zb0 Q 2 ([zR r0, zI x1, zR r2, zI x3], [], SH, M, L) := zEx_run [2, 19, 22] 2 (by decide) (zkq_i hr2.1 (zit (c := x3 < M r2 1) h (fun h => zkq_i hr2.1 (h)) (fun h => h)))
set_option maxRecDepth 20000 in
theorem g_ro_overwrite_19 {d : Nat} {M L : zM} {Q : Int → zW → Prop} {r0 r2 sr2 : Nat} {x1 x3 sx0 sx1 : Int} (hr0 : zRow r0) (hr2 : zRow r2) (hsr2 : zRow sr2)
    (h : zEv d m_ro_set [zR sr2, zI sx1, zI sx0] (SH, M, L) (fun _ w => zEx (d + 1) m_ro_overwrite zb0 Q 22 ([zR r0, zI x1, zR r2, zI x3], [], w))) :
    zEx (d + 1) m_ro_overwrite zb0 Q 19 ([zR r0, zI x1, zR r2, zI x3], [zI sx0, zI sx1, zR sr2], SH, M, L) := zEx_run [2, 19, 22] 2 (by decide) (zkq_i hsr2.1 (h))
set_option maxRecDepth 20000 in
theorem g_ro_overwrite_22 {d : Nat} {M L : zM} {Q : Int → zW → Prop} {r0 r2 : Nat} {x1 x3 : Int} (hr0 : zRow r0) (hr2 : zRow r2)
    (h : zEx (d + 1) m_ro_overwrite zb0 Q 2 ([zR r0, zI x1, zR r2, zI (zwr (x3 + 1))], [], SH, M, L)) :
    zEx (d + 1) m_ro_overwrite zb0 Q 22 ([zR r0, zI x1, zR r2, zI x3], [], SH, M, L) := zEx_run [2, 19, 22] 2 (by decide) (h)
set_option maxRecDepth 20000 in
theorem g_ro_swapWithNext_0 {d : Nat} {M L : zM} {Q : Int → zW → Prop} {r0 : Nat} {x1 : Int} (hr0 : zRow r0)
    (h : zEv d m_ro_get [zR r0, zI x1] (SH, M, L) (fun x w => zEx (d + 1) m_ro_swapWithNext zb0 Q 5 ([zR r0, zI x1, zN], [zI x], w))) :
    zEx (d + 1) m_ro_swapWithNext zb0 Q 0 ([zR r0, zI x1, zN], [], SH, M, L) := zEx_run [5, 15, 18, 26] 2 (by decide) (zkq_i hr0.1 (h))
set_option maxRecDepth 20000 in
theorem g_ro_swapWithNext_5 {d : Nat} {M L : zM} {Q : Int → zW → Prop} {r0 : Nat} {x1 sx0 : Int} (hr0 : zRow r0)
    (h : zEv d m_ro_get [zR r0, zI (zwr (x1 + 1))] (SH, M, L) (fun x w => zEx (d + 1) m_ro_swapWithNext zb0 Q 15 ([zR r0, zI x1, zI sx0], [zI x, zI x1, zR r0], w))) :
    zEx (d + 1) m_ro_swapWithNext zb0 Q 5 ([zR r0, zI x1, zN], [zI sx0], SH, M, L) := zEx_run [5, 15, 18, 26] 2 (by decide) (zkq_i hr0.1 (h))
set_option maxRecDepth 20000 in
theorem g_ro_swapWithNext_15 {d : Nat} {M L : zM} {Q : Int → zW → Prop} {r0 sr2 : Nat} {x1 x2 sx0 sx1 : Int} (hr0 : zRow r0) (hsr2 : zRow sr2)
    (h : zEv d m_ro_set [zR sr2, zI sx1, zI sx0] (SH, M, L) (fun _ w => zEx (d + 1) m_ro_swapWithNext zb0 Q 18 ([zR r0, zI x1, zI x2], [], w))) :
    zEx (d + 1) m_ro_swapWithNext zb0 Q 15 ([zR r0, zI x1, zI x2], [zI sx0, zI sx1, zR sr2], SH, M, L) := zEx_run [5, 15, 18, 26] 2 (by decide) (zkq_i hsr2.1 (h))
set_option maxRecDepth 20000 in
theorem g_ro_swapWithNext_18 {d : Nat} {M L : zM} {Q : Int → zW → Prop} {r0 : Nat} {x1 x2 : Int} (hr0 : zRow r0)
    (h : zEv d m_ro_set [zR r0, zI (zwr (x1 + 1)), zI x2] (SH, M, L) (fun _ w => zEx (d + 1) m_ro_swapWithNext zb0 Q 26 ([zR r0, zI x1, zI x2], [], w))) :
    zEx (d + 1) m_ro_swapWithNext zb0 Q 18 ([zR r0, zI x1, zI x2], [], SH, M, L) := zEx_run [5, 15, 18, 26] 2 (by decide) (zkq_i hr0.1 (h))
set_option maxRecDepth 20000 in
theorem g_ro_swapWithNext_26 {d : Nat} {M L : zM} {Q : Int → zW → Prop} {r0 : Nat} {x1 x2 : Int} (hr0 : zRow r0)
    (h : Q 0 (SH, M, L)) :
    zEx (d + 1) m_ro_swapWithNext zb0 Q 26 ([zR r0, zI x1, zI x2], [], SH, M, L) := zEx_run [5, 15, 18, 26] 2 (by decide) (h)
set_option maxRecDepth 20000 in
theorem g_ro_removeFirst_0 {d : Nat} {M L : zM} {Q : Int → zW → Prop} {r0 : Nat} {x1 : Int} (hr0 : zRow r0)
    (h : zEv d m_ro_placeOfTime [zR r0, zI x1, zI 0] (SH, M, L) (fun x w => zEx (d + 1) m_ro_removeFirst zb0 Q 6 ([zR r0, zI x1, zN, zN], [zI x], w))) :
    zEx (d + 1) m_ro_removeFirst zb0 Q 0 ([zR r0, zI x1, zN, zN], [], SH, M, L) := zEx_run [6, 16] 2 (by decide) (zkq_i hr0.1 (h))
set_option maxRecDepth 20000 in
theorem g_ro_removeFirst_6 {d : Nat} {M L : zM} {Q : Int → zW → Prop} {r0 : Nat} {x1 sx0 : Int} (hr0 : zRow r0)
    (h : if sx0 < 0 then Q 0 (SH, M, L) else zEx (d + 1) m_ro_removeFirst zb0 Q 16 ([zR r0, zI x1, zI sx0, zI (zwr (sx0 + 1))], [], SH, M, L)) :
    zEx (d + 1) m_ro_removeFirst zb0 Q 6 ([zR r0, zI x1, zN, zN], [zI sx0], SH, M, L) := zEx_run [6, 16] 3 (by decide) (h)
set_option maxRecDepth 20000 in
theorem g_ro_removeFirst_16 {d : Nat} {M L : zM} {Q : Int → zW → Prop} {r0 : Nat} {x1 x2 x3 : Int} (hr0 : zRow r0)
    (h : if x3 < M r0 1 then zck (0 ≤ x3 ∧ x3 < zln SH (r0 + 1)) (zck (0 ≤ zwr (x3 - 1) ∧ zwr (x3 - 1) < zln SH (r0 + 1)) (zEx (d + 1) m_ro_removeFirst zb0 Q 16 ([zR r0, zI x1, zI x2, zI (zwr (x3 + 1))], [], SH, (zmu M (r0 + 1) (Int.toNat (zwr (x3 - 1))) (M (r0 + 1) (Int.toNat x3))), L))) else Q 0 (SH, (zmu M r0 1 (zwr ((M r0 1) - 1))), L)) :
    zEx (d + 1) m_ro_removeFirst zb0 Q 16 ([zR r0, zI x1, zI x2, zI x3], [], SH, M, L) := zEx_run [6, 16] 2 (by decide) (zkq_i hr0.1 (zit (c := x3 < M r0 1) h (fun h => zkq_i hr0.1 (zom_i hr0.2.1 (zkq_i hr0.1 (zom_i hr0.2.1 (zixm hr0.2.2.1 h (fun h => zixm hr0.2.2.1 h (fun h => h))))))) (fun h => zkq_i hr0.1 (zkq_i hr0.1 (h)))))
set_option maxRecDepth 20000 in
theorem g_ro_placeOfTime_0 {d : Nat} {M L : zM} {Q : Int → zW → Prop} {r0 : Nat} {x1 x2 : Int} (hr0 : zRow r0)
    (h : zEx (d + 1) m_ro_placeOfTime zb0 Q 5 ([zR r0, zI x1, zI x2, zI 0, zI 0], [], SH, M, L)) :
    zEx (d + 1) m_ro_placeOfTime zb0 Q 0 ([zR r0, zI x1, zI x2, zN, zN], [], SH, M, L) := zEx_run [5] 2 (by decide) (h)
set_option maxRecDepth 20000 in
theorem g_ro_placeOfTime_5 {d : Nat} {M L : zM} {Q : Int → zW → Prop} {r0 : Nat} {x1 x2 x3 x4 : Int} (hr0 : zRow r0)
    (h : if x4 < M r0 1 then zck (0 ≤ x4 ∧ x4 < zln SH (r0 + 1)) (if M (r0 + 1) (Int.toNat x4) = x1 then if x3 = x2 then Q x4 (SH, M, L) else zEx (d + 1) m_ro_placeOfTime zb0 Q 5 ([zR r0, zI x1, zI x2, zI (zwr (x3 + 1)), zI (zwr (x4 + 1))], [], SH, M, L) else zEx (d + 1) m_ro_placeOfTime zb0 Q 5 ([zR r0, zI x1, zI x2, zI x3, zI (zwr (x4 + 1))], [], SH, M, L)) else Q (-9) (SH, M, L)) :
    zEx (d + 1) m_ro_placeOfTime zb0 Q 5 ([zR r0, zI x1, zI x2, zI x3, zI x4], [], SH, M, L) := zEx_run [5] 4 (by decide) (zkq_i hr0.1 (zit (c := x4 < M r0 1) h (fun h => zkq_i hr0.1 (zom_i hr0.2.1 (zixm hr0.2.2.1 h (fun h => h)))) (fun h => h)))
set_option maxRecDepth 20000 in
theorem g_ro_timesOf_0 {d : Nat} {M L : zM} {Q : Int → zW → Prop} {r0 : Nat} {x1 : Int} (hr0 : zRow r0)
    (h : zEx (d + 1) m_ro_timesOf zb0 Q 4 ([zR r0, zI x1, zI 0, zI 0], [], SH, M, L)) :
    zEx (d + 1) m_ro_timesOf zb0 Q 0 ([zR r0, zI x1, zN, zN], [], SH, M, L) := zEx_run [4] 2 (by decide) (h)
set_option maxRecDepth 20000 in
theorem g_ro_timesOf_4 {d : Nat} {M L : zM} {Q : Int → zW → Prop} {r0 : Nat} {x1 x2 x3 : Int} (hr0 : zRow r0)
    (h : if x3 < M r0 1 then zck (0 ≤ x3 ∧ x3 < zln SH (r0 + 1)) (if M (r0 + 1) (Int.toNat x3) = x1 then zEx (d + 1) m_ro_timesOf zb0 Q 4 ([zR r0, zI x1, zI (zwr (x2 + 1)), zI (zwr (x3 + 1))], [], SH, M, L) else zEx (d + 1) m_ro_timesOf zb0 Q 4 ([zR r0, zI x1, zI x2, zI (zwr (x3 + 1))], [], SH, M, L)) else Q x2 (SH, M, L)) :
    zEx (d + 1) m_ro_timesOf zb0 Q 4 ([zR r0, zI x1, zI x2, zI x3], [], SH, M, L) := zEx_run [4] 3 (by decide) (zkq_i hr0.1 (zit (c := x3 < M r0 1) h (fun h => zkq_i hr0.1 (zom_i hr0.2.1 (zixm hr0.2.2.1 h (fun h => h)))) (fun h => h)))
set_option maxRecDepth 20000 in
theorem g_ro_letters_0 {d : Nat} {M L : zM} {Q : Int → zW → Prop} {r0 : Nat} (hr0 : zRow r0)
    (h : zEx (d + 1) m_ro_letters zb0 Q 4 ([zR r0, zI 0, zI 0], [], SH, M, L)) :
    zEx (d + 1) m_ro_letters zb0 Q 0 ([zR r0, zN, zN], [], SH, M, L) := zEx_run [4] 2 (by decide) (h)
set_option maxRecDepth 20000 in
theorem g_ro_letters_4 {d : Nat} {M L : zM} {Q : Int → zW → Prop} {r0 : Nat} {x1 x2 : Int} (hr0 : zRow r0)
    (h : if x2 < M r0 1 then zck (0 ≤ x2 ∧ x2 < zln SH (r0 + 1)) (zEx (d + 1) m_ro_letters zb0 Q 4 ([zR r0, zI (zor x1 (zshl 1 (M (r0 + 1) (Int.toNat x2)))), zI (zwr (x2 + 1))], [], SH, M, L)) else Q x1 (SH, M, L)) :
    zEx (d + 1) m_ro_letters zb0 Q 4 ([zR r0, zI x1, zI x2], [], SH, M, L) := zEx_run [4] 2 (by decide) (zkq_i hr0.1 (zit (c := x2 < M r0 1) h (fun h => zkq_i hr0.1 (zom_i hr0.2.1 (zixm hr0.2.2.1 h (fun h => h)))) (fun h => h)))
set_option maxRecDepth 20000 in
theorem g_ro_isWord_0 {d : Nat} {M L : zM} {Q : Int → zW → Prop} {r0 : Nat} (hr0 : zRow r0)
    (h : zEx (d + 1) m_ro_isWord zb0 Q 2 ([zR r0, zI 0], [], SH, M, L)) :
    zEx (d + 1) m_ro_isWord zb0 Q 0 ([zR r0, zN], [], SH, M, L) := zEx_run [2, 19] 2 (by decide) (h)
set_option maxRecDepth 20000 in
theorem g_ro_isWord_2 {d : Nat} {M L : zM} {Q : Int → zW → Prop} {r0 : Nat} {x1 : Int} (hr0 : zRow r0)
    (h : if x1 < M r0 1 then zck (0 ≤ x1 ∧ x1 < zln SH (r0 + 1)) (zEv d m_lt_noLetter [zI (M (r0 + 1) (Int.toNat x1))] (SH, M, L) (fun x w => zEx (d + 1) m_ro_isWord zb0 Q 19 ([zR r0, zI x1], [zI x], w))) else Q 1 (SH, M, L)) :
    zEx (d + 1) m_ro_isWord zb0 Q 2 ([zR r0, zI x1], [], SH, M, L) := zEx_run [2, 19] 2 (by decide) (zkq_i hr0.1 (zit (c := x1 < M r0 1) h (fun h => zkq_i hr0.1 (zom_i hr0.2.1 (zixm hr0.2.2.1 h (fun h => h)))) (fun h => h)))
set_option maxRecDepth 20000 in
theorem g_ro_isWord_19 {d : Nat} {M L : zM} {Q : Int → zW → Prop} {r0 : Nat} {x1 sx0 : Int} (hr0 : zRow r0)
    (h : if sx0 = 0 then zEx (d + 1) m_ro_isWord zb0 Q 2 ([zR r0, zI (zwr (x1 + 1))], [], SH, M, L) else Q 0 (SH, M, L)) :
    zEx (d + 1) m_ro_isWord zb0 Q 19 ([zR r0, zI x1], [zI sx0], SH, M, L) := zEx_run [2, 19] 3 (by decide) (h)
set_option maxRecDepth 20000 in
theorem g_ro_same_0 {d : Nat} {M L : zM} {Q : Int → zW → Prop} {r0 r1 : Nat} (hr0 : zRow r0) (hr1 : zRow r1)
    (h : if M r0 1 = M r1 1 then zEv d m_ro_firstOther [zR r0, zR r1] (SH, M, L) (fun x w => zEx (d + 1) m_ro_same zb0 Q 16 ([zR r0, zR r1], [zI x], w)) else Q 0 (SH, M, L)) :
    zEx (d + 1) m_ro_same zb0 Q 0 ([zR r0, zR r1], [], SH, M, L) := zEx_run [16] 3 (by decide) (zkq_i hr0.1 (zkq_i hr1.1 (zit (c := M r0 1 = M r1 1) h (fun h => zkq_i hr0.1 (h)) (fun h => h))))
set_option maxRecDepth 20000 in
theorem g_ro_same_16 {d : Nat} {M L : zM} {Q : Int → zW → Prop} {r0 r1 : Nat} {sx0 : Int} (hr0 : zRow r0) (hr1 : zRow r1)
    (h : if sx0 = (-9) then Q 1 (SH, M, L) else Q 0 (SH, M, L)) :
    zEx (d + 1) m_ro_same zb0 Q 16 ([zR r0, zR r1], [zI sx0], SH, M, L) := zEx_run [16] 3 (by decide) (h)
set_option maxRecDepth 20000 in
theorem g_ro_firstOther_0 {d : Nat} {M L : zM} {Q : Int → zW → Prop} {r0 r1 : Nat} (hr0 : zRow r0) (hr1 : zRow r1)
    (h : zEx (d + 1) m_ro_firstOther zb0 Q 2 ([zR r0, zR r1, zI 0], [], SH, M, L)) :
    zEx (d + 1) m_ro_firstOther zb0 Q 0 ([zR r0, zR r1, zN], [], SH, M, L) := zEx_run [2, 29] 2 (by decide) (h)
set_option maxRecDepth 20000 in
theorem g_ro_firstOther_2 {d : Nat} {M L : zM} {Q : Int → zW → Prop} {r0 r1 : Nat} {x2 : Int} (hr0 : zRow r0) (hr1 : zRow r1)
    (h : if x2 < M r0 1 then if x2 < M r1 1 then zck (0 ≤ x2 ∧ x2 < zln SH (r0 + 1)) (zEv d m_ro_get [zR r1, zI x2] (SH, M, L) (fun x w => zEx (d + 1) m_ro_firstOther zb0 Q 29 ([zR r0, zR r1, zI x2], [zI x, zI (M (r0 + 1) (Int.toNat x2))], w))) else Q x2 (SH, M, L) else Q (-9) (SH, M, L)) :
    zEx (d + 1) m_ro_firstOther zb0 Q 2 ([zR r0, zR r1, zI x2], [], SH, M, L) := zEx_run [2, 29] 2 (by decide) (zkq_i hr0.1 (zit (c := x2 < M r0 1) h (fun h => zkq_i hr1.1 (zit (c := x2 < M r1 1) h (fun h => zkq_i hr0.1 (zom_i hr0.2.1 (zixm hr0.2.2.1 h (fun h => zkq_i hr1.1 (h))))) (fun h => h))) (fun h => h)))
set_option maxRecDepth 20000 in
theorem g_ro_firstOther_29 {d : Nat} {M L : zM} {Q : Int → zW → Prop} {r0 r1 : Nat} {x2 sx0 sx1 : Int} (hr0 : zRow r0) (hr1 : zRow r1)
    (h : if sx1 = sx0 then zEx (d + 1) m_ro_firstOther zb0 Q 2 ([zR r0, zR r1, zI (zwr (x2 + 1))], [], SH, M, L) else Q x2 (SH, M, L)) :
    zEx (d + 1) m_ro_firstOther zb0 Q 29 ([zR r0, zR r1, zI x2], [zI sx0, zI sx1], SH, M, L) := zEx_run [2, 29] 3 (by decide) (h)
set_option maxRecDepth 20000 in
theorem g_ro_howManyOther_0 {d : Nat} {M L : zM} {Q : Int → zW → Prop} {r0 r1 : Nat} (hr0 : zRow r0) (hr1 : zRow r1)
    (h : zEx (d + 1) m_ro_howManyOther zb0 Q 4 ([zR r0, zR r1, zI 0, zI 0], [], SH, M, L)) :
    zEx (d + 1) m_ro_howManyOther zb0 Q 0 ([zR r0, zR r1, zN, zN], [], SH, M, L) := zEx_run [4, 23] 2 (by decide) (h)
set_option maxRecDepth 20000 in
theorem g_ro_howManyOther_4 {d : Nat} {M L : zM} {Q : Int → zW → Prop} {r0 r1 : Nat} {x2 x3 : Int} (hr0 : zRow r0) (hr1 : zRow r1)
    (h : if x3 < M r0 1 then zck (0 ≤ x3 ∧ x3 < zln SH (r0 + 1)) (zEv d m_ro_get [zR r1, zI x3] (SH, M, L) (fun x w => zEx (d + 1) m_ro_howManyOther zb0 Q 23 ([zR r0, zR r1, zI x2, zI x3], [zI x, zI (M (r0 + 1) (Int.toNat x3))], w))) else Q x2 (SH, M, L)) :
    zEx (d + 1) m_ro_howManyOther zb0 Q 4 ([zR r0, zR r1, zI x2, zI x3], [], SH, M, L) := zEx_run [4, 23] 2 (by decide) (zkq_i hr0.1 (zit (c := x3 < M r0 1) h (fun h => zkq_i hr0.1 (zom_i hr0.2.1 (zixm hr0.2.2.1 h (fun h => zkq_i hr1.1 (h))))) (fun h => h)))
set_option maxRecDepth 20000 in
theorem g_ro_howManyOther_23 {d : Nat} {M L : zM} {Q : Int → zW → Prop} {r0 r1 : Nat} {x2 x3 sx0 sx1 : Int} (hr0 : zRow r0) (hr1 : zRow r1)
    (h : if sx1 = sx0 then zEx (d + 1) m_ro_howManyOther zb0 Q 4 ([zR r0, zR r1, zI x2, zI (zwr (x3 + 1))], [], SH, M, L) else zEx (d + 1) m_ro_howManyOther zb0 Q 4 ([zR r0, zR r1, zI (zwr (x2 + 1)), zI (zwr (x3 + 1))], [], SH, M, L)) :
    zEx (d + 1) m_ro_howManyOther zb0 Q 23 ([zR r0, zR r1, zI x2, zI x3], [zI sx0, zI sx1], SH, M, L) := zEx_run [4, 23] 3 (by decide) (h)
set_option maxRecDepth 20000 in
theorem g_la_passedBy_0 {d : Nat} {M L : zM} {Q : Int → zW → Prop} {r0 : Nat} {x1 : Int} (hr0 : zLaw r0)
    (h : zEv d m_lt_noLetter [zI x1] (SH, M, L) (fun x w => zEx (d + 1) m_la_passedBy zb0 Q 4 ([zR r0, zI x1], [zI x], w))) :
    zEx (d + 1) m_la_passedBy zb0 Q 0 ([zR r0, zI x1], [], SH, M, L) := zEx_run [4] 2 (by decide) (h)
set_option maxRecDepth 20000 in
theorem g_la_passedBy_4 {d : Nat} {M L : zM} {Q : Int → zW → Prop} {r0 : Nat} {x1 sx0 : Int} (hr0 : zLaw r0)
    (h : if sx0 = 0 then zck (0 ≤ x1 ∧ x1 < zln SH (r0 + 1)) (Q (M (r0 + 1) (Int.toNat x1)) (SH, M, L)) else Q 0 (SH, M, L)) :
    zEx (d + 1) m_la_passedBy zb0 Q 4 ([zR r0, zI x1], [zI sx0], SH, M, L) := zEx_run [4] 3 (by decide) (zit (c := sx0 = 0) h (fun h => zkq_i hr0.1 (zom_i hr0.2.1 (zixm hr0.2.2.1 h (fun h => h)))) (fun h => h))
set_option maxRecDepth 20000 in
theorem g_la_rankOf_0 {d : Nat} {M L : zM} {Q : Int → zW → Prop} {r0 : Nat} {x1 : Int} (hr0 : zLaw r0)
    (h : zEv d m_lt_noLetter [zI x1] (SH, M, L) (fun x w => zEx (d + 1) m_la_rankOf zb0 Q 4 ([zR r0, zI x1], [zI x], w))) :
    zEx (d + 1) m_la_rankOf zb0 Q 0 ([zR r0, zI x1], [], SH, M, L) := zEx_run [4] 2 (by decide) (h)
set_option maxRecDepth 20000 in
theorem g_la_rankOf_4 {d : Nat} {M L : zM} {Q : Int → zW → Prop} {r0 : Nat} {x1 sx0 : Int} (hr0 : zLaw r0)
    (h : if sx0 = 0 then zck (0 ≤ x1 ∧ x1 < zln SH (r0 + 2)) (Q (M (r0 + 2) (Int.toNat x1)) (SH, M, L)) else Q (-9) (SH, M, L)) :
    zEx (d + 1) m_la_rankOf zb0 Q 4 ([zR r0, zI x1], [zI sx0], SH, M, L) := zEx_run [4] 3 (by decide) (zit (c := sx0 = 0) h (fun h => zkq_i hr0.1 (zom_i hr0.2.2.2.1 (zixm hr0.2.2.2.2.1 h (fun h => h)))) (fun h => h))
set_option maxRecDepth 20000 in
theorem g_la_letPass_0 {d : Nat} {M L : zM} {Q : Int → zW → Prop} {r0 : Nat} {x1 x2 : Int} (hr0 : zLaw r0)
    (h : zEv d m_la_passedBy [zR r0, zI x1] (SH, M, L) (fun x w => zEx (d + 1) m_la_letPass zb0 Q 5 ([zR r0, zI x1, zI x2], [zI x], w))) :
    zEx (d + 1) m_la_letPass zb0 Q 0 ([zR r0, zI x1, zI x2], [], SH, M, L) := zEx_run [5] 2 (by decide) (zkq_i hr0.1 (h))
set_option maxRecDepth 20000 in
theorem g_la_letPass_5 {d : Nat} {M L : zM} {Q : Int → zW → Prop} {r0 : Nat} {x1 x2 sx0 : Int} (hr0 : zLaw r0)
    (h : if zand (zshr sx0 x2) 1 = 1 then Q 1 (SH, M, L) else Q 0 (SH, M, L)) :
    zEx (d + 1) m_la_letPass zb0 Q 5 ([zR r0, zI x1, zI x2], [zI sx0], SH, M, L) := zEx_run [5] 3 (by decide) (h)
set_option maxRecDepth 20000 in
theorem g_la_flip_0 {d : Nat} {M L : zM} {Q : Int → zW → Prop} {r0 : Nat} {x1 x2 : Int} (hr0 : zLaw r0)
    (h : zEv d m_lt_notTwoLetters [zI x1, zI x2] (SH, M, L) (fun x w => zEx (d + 1) m_la_flip zb0 Q 5 ([zR r0, zI x1, zI x2], [zI x], w))) :
    zEx (d + 1) m_la_flip zb0 Q 0 ([zR r0, zI x1, zI x2], [], SH, M, L) := zEx_run [5] 2 (by decide) (h)
set_option maxRecDepth 20000 in
theorem g_la_flip_5 {d : Nat} {M L : zM} {Q : Int → zW → Prop} {r0 : Nat} {x1 x2 sx0 : Int} (hr0 : zLaw r0)
    (h : if sx0 = 0 then zck (0 ≤ x1 ∧ x1 < zln SH (r0 + 1)) (zck (0 ≤ x1 ∧ x1 < zln SH (r0 + 1)) (zck (0 ≤ x2 ∧ x2 < zln SH (r0 + 1)) (zck (0 ≤ x2 ∧ x2 < zln SH (r0 + 1)) (Q 0 (SH, (zmu (zmu M (r0 + 1) (Int.toNat x1) (zxor (M (r0 + 1) (Int.toNat x1)) (zshl 1 x2))) (r0 + 1) (Int.toNat x2) (zxor ((zmu M (r0 + 1) (Int.toNat x1) (zxor (M (r0 + 1) (Int.toNat x1)) (zshl 1 x2))) (r0 + 1) (Int.toNat x2)) (zshl 1 x1))), L))))) else Q 0 (SH, M, L)) :
    zEx (d + 1) m_la_flip zb0 Q 5 ([zR r0, zI x1, zI x2], [zI sx0], SH, M, L) := zEx_run [5] 2 (by decide) (zit (c := sx0 = 0) h (fun h => zkq_i hr0.1 (zom_i hr0.2.1 (zixm hr0.2.2.1 h (fun h => zixm hr0.2.2.1 h (fun h => zkq_i hr0.1 (zom_i hr0.2.1 (zixm hr0.2.2.1 h (fun h => zixm hr0.2.2.1 h (fun h => h))))))))) (fun h => h))
set_option maxRecDepth 20000 in
theorem g_la_swapRanks_0 {d : Nat} {M L : zM} {Q : Int → zW → Prop} {r0 : Nat} {x1 x2 : Int} (hr0 : zLaw r0)
    (h : zEv d m_lt_notTwoLetters [zI x1, zI x2] (SH, M, L) (fun x w => zEx (d + 1) m_la_swapRanks zb0 Q 5 ([zR r0, zI x1, zI x2, zN], [zI x], w))) :
    zEx (d + 1) m_la_swapRanks zb0 Q 0 ([zR r0, zI x1, zI x2, zN], [], SH, M, L) := zEx_run [5] 2 (by decide) (h)
set_option maxRecDepth 20000 in
theorem g_la_swapRanks_5 {d : Nat} {M L : zM} {Q : Int → zW → Prop} {r0 : Nat} {x1 x2 sx0 : Int} (hr0 : zLaw r0)
    (h : if sx0 = 0 then zck (0 ≤ x1 ∧ x1 < zln SH (r0 + 2)) (zck (0 ≤ x2 ∧ x2 < zln SH (r0 + 2)) (zck (0 ≤ x1 ∧ x1 < zln SH (r0 + 2)) (zck (0 ≤ x2 ∧ x2 < zln SH (r0 + 2)) (Q 0 (SH, (zmu (zmu M (r0 + 2) (Int.toNat x1) (M (r0 + 2) (Int.toNat x2))) (r0 + 2) (Int.toNat x2) (M (r0 + 2) (Int.toNat x1))), L))))) else Q 0 (SH, M, L)) :
    zEx (d + 1) m_la_swapRanks zb0 Q 5 ([zR r0, zI x1, zI x2, zN], [zI sx0], SH, M, L) := zEx_run [5] 2 (by decide) (zit (c := sx0 = 0) h (fun h => zkq_i hr0.1 (zom_i hr0.2.2.2.1 (zixm hr0.2.2.2.2.1 h (fun h => zkq_i hr0.1 (zom_i hr0.2.2.2.1 (zkq_i hr0.1 (zom_i hr0.2.2.2.1 (zixm hr0.2.2.2.2.1 h (fun h => zixm hr0.2.2.2.2.1 h (fun h => zkq_i hr0.1 (zom_i hr0.2.2.2.1 (zixm hr0.2.2.2.2.1 h (fun h => h))))))))))))) (fun h => h))
set_option maxRecDepth 20000 in
theorem g_la_copy_0 {d : Nat} {M L : zM} {Q : Int → zW → Prop} {r0 r1 : Nat} (hr0 : zLaw r0) (hr1 : zLaw r1)
    (h : zEx (d + 1) m_la_copy zb0 Q 2 ([zR r0, zR r1, zI 0], [], SH, M, L)) :
    zEx (d + 1) m_la_copy zb0 Q 0 ([zR r0, zR r1, zN], [], SH, M, L) := zEx_run [2] 2 (by decide) (h)
set_option maxRecDepth 20000 in
theorem g_la_copy_2 {d : Nat} {M L : zM} {Q : Int → zW → Prop} {r0 r1 : Nat} {x2 : Int} (hr0 : zLaw r0) (hr1 : zLaw r1)
    (h : if x2 < 6 then zck (0 ≤ x2 ∧ x2 < zln SH (r1 + 1)) (zck (0 ≤ x2 ∧ x2 < zln SH (r0 + 1)) (zck (0 ≤ x2 ∧ x2 < zln SH (r1 + 2)) (zck (0 ≤ x2 ∧ x2 < zln SH (r0 + 2)) (zEx (d + 1) m_la_copy zb0 Q 2 ([zR r0, zR r1, zI (zwr (x2 + 1))], [], SH, (zmu (zmu M (r0 + 1) (Int.toNat x2) (M (r1 + 1) (Int.toNat x2))) (r0 + 2) (Int.toNat x2) ((zmu M (r0 + 1) (Int.toNat x2) (M (r1 + 1) (Int.toNat x2))) (r1 + 2) (Int.toNat x2))), L))))) else Q 0 (SH, M, L)) :
    zEx (d + 1) m_la_copy zb0 Q 2 ([zR r0, zR r1, zI x2], [], SH, M, L) := zEx_run [2] 2 (by decide) (zit (c := x2 < 6) h (fun h => zkq_i hr0.1 (zom_i hr0.2.1 (zkq_i hr1.1 (zom_i hr1.2.1 (zixm hr1.2.2.1 h (fun h => zixm hr0.2.2.1 h (fun h => zkq_i hr0.1 (zom_i hr0.2.2.2.1 (zkq_i hr1.1 (zom_i hr1.2.2.2.1 (zixm hr1.2.2.2.2.1 h (fun h => zixm hr0.2.2.2.2.1 h (fun h => h))))))))))))) (fun h => h))
set_option maxRecDepth 20000 in
theorem g_la_same_0 {d : Nat} {M L : zM} {Q : Int → zW → Prop} {r0 r1 : Nat} (hr0 : zLaw r0) (hr1 : zLaw r1)
    (h : zEx (d + 1) m_la_same zb0 Q 2 ([zR r0, zR r1, zI 0], [], SH, M, L)) :
    zEx (d + 1) m_la_same zb0 Q 0 ([zR r0, zR r1, zN], [], SH, M, L) := zEx_run [2] 2 (by decide) (h)
set_option maxRecDepth 20000 in
theorem g_la_same_2 {d : Nat} {M L : zM} {Q : Int → zW → Prop} {r0 r1 : Nat} {x2 : Int} (hr0 : zLaw r0) (hr1 : zLaw r1)
    (h : if x2 < 6 then zck (0 ≤ x2 ∧ x2 < zln SH (r0 + 1)) (zck (0 ≤ x2 ∧ x2 < zln SH (r1 + 1)) (if M (r0 + 1) (Int.toNat x2) = M (r1 + 1) (Int.toNat x2) then zck (0 ≤ x2 ∧ x2 < zln SH (r0 + 2)) (zck (0 ≤ x2 ∧ x2 < zln SH (r1 + 2)) (if M (r0 + 2) (Int.toNat x2) = M (r1 + 2) (Int.toNat x2) then zEx (d + 1) m_la_same zb0 Q 2 ([zR r0, zR r1, zI (zwr (x2 + 1))], [], SH, M, L) else Q 0 (SH, M, L))) else Q 0 (SH, M, L))) else Q 1 (SH, M, L)) :
    zEx (d + 1) m_la_same zb0 Q 2 ([zR r0, zR r1, zI x2], [], SH, M, L) := zEx_run [2] 3 (by decide) (zit (c := x2 < 6) h (fun h => zkq_i hr0.1 (zom_i hr0.2.1 (zixm hr0.2.2.1 h (fun h => zkq_i hr1.1 (zom_i hr1.2.1 (zixm hr1.2.2.1 h (fun h => zit (c := M (r0 + 1) (Int.toNat x2) = M (r1 + 1) (Int.toNat x2)) h (fun h => zkq_i hr0.1 (zom_i hr0.2.2.2.1 (zixm hr0.2.2.2.2.1 h (fun h => zkq_i hr1.1 (zom_i hr1.2.2.2.1 (zixm hr1.2.2.2.2.1 h (fun h => h))))))) (fun h => h)))))))) (fun h => h))
set_option maxRecDepth 20000 in
theorem g_la_howManyPairs_0 {d : Nat} {M L : zM} {Q : Int → zW → Prop} {r0 : Nat} (hr0 : zLaw r0)
    (h : zEx (d + 1) m_la_howManyPairs zb0 Q 4 ([zR r0, zI 0, zI 0], [], SH, M, L)) :
    zEx (d + 1) m_la_howManyPairs zb0 Q 0 ([zR r0, zN, zN], [], SH, M, L) := zEx_run [4, 20] 2 (by decide) (h)
set_option maxRecDepth 20000 in
theorem g_la_howManyPairs_4 {d : Nat} {M L : zM} {Q : Int → zW → Prop} {r0 : Nat} {x1 x2 : Int} (hr0 : zLaw r0)
    (h : if x2 < 6 then zck (0 ≤ x2 ∧ x2 < zln SH (r0 + 1)) (zEv d m_jd_bitCount [zI (M (r0 + 1) (Int.toNat x2))] (SH, M, L) (fun x w => zEx (d + 1) m_la_howManyPairs zb0 Q 20 ([zR r0, zI x1, zI x2], [zI x, zI x1], w))) else Q (zdiv x1 2) (SH, M, L)) :
    zEx (d + 1) m_la_howManyPairs zb0 Q 4 ([zR r0, zI x1, zI x2], [], SH, M, L) := zEx_run [4, 20] 2 (by decide) (zit (c := x2 < 6) h (fun h => zkq_i hr0.1 (zom_i hr0.2.1 (zixm hr0.2.2.1 h (fun h => h)))) (fun h => h))
set_option maxRecDepth 20000 in
theorem g_la_howManyPairs_20 {d : Nat} {M L : zM} {Q : Int → zW → Prop} {r0 : Nat} {x1 x2 sx0 sx1 : Int} (hr0 : zLaw r0)
    (h : zEx (d + 1) m_la_howManyPairs zb0 Q 4 ([zR r0, zI (zwr (sx1 + sx0)), zI (zwr (x2 + 1))], [], SH, M, L)) :
    zEx (d + 1) m_la_howManyPairs zb0 Q 20 ([zR r0, zI x1, zI x2], [zI sx0, zI sx1], SH, M, L) := zEx_run [4, 20] 2 (by decide) (h)
set_option maxRecDepth 20000 in
theorem g_la_readyLetters_0 {d : Nat} {M L : zM} {Q : Int → zW → Prop} {r0 r1 : Nat} (hr0 : zLaw r0) (hr1 : zRow r1)
    (h : zEx (d + 1) m_la_readyLetters zb0 Q 7 ([zR r0, zR r1, zI 0, zI 0, zI 0, zN], [], SH, M, L)) :
    zEx (d + 1) m_la_readyLetters zb0 Q 0 ([zR r0, zR r1, zN, zN, zN, zN], [], SH, M, L) := zEx_run [7, 13, 22, 31] 2 (by decide) (h)
set_option maxRecDepth 20000 in
theorem g_la_readyLetters_7 {d : Nat} {M L : zM} {Q : Int → zW → Prop} {r0 r1 : Nat} {x2 x3 x4 : Int} {v5 : zV} (hr0 : zLaw r0) (hr1 : zRow r1)
    (h : zEv d m_ro_size [zR r1] (SH, M, L) (fun x w => zEx (d + 1) m_la_readyLetters zb0 Q 13 ([zR r0, zR r1, zI x2, zI x3, zI x4, v5], [zI x, zI x4], w))) :
    zEx (d + 1) m_la_readyLetters zb0 Q 7 ([zR r0, zR r1, zI x2, zI x3, zI x4, v5], [], SH, M, L) := zEx_run [7, 13, 22, 31] 2 (by decide) (zkq_i hr1.1 (h))
set_option maxRecDepth 20000 in
theorem g_la_readyLetters_13 {d : Nat} {M L : zM} {Q : Int → zW → Prop} {r0 r1 : Nat} {x2 x3 x4 sx0 sx1 : Int} {v5 : zV} (hr0 : zLaw r0) (hr1 : zRow r1)
    (h : if sx1 < sx0 then zEv d m_ro_get [zR r1, zI x4] (SH, M, L) (fun x w => zEx (d + 1) m_la_readyLetters zb0 Q 22 ([zR r0, zR r1, zI x2, zI x3, zI x4, v5], [zI x], w)) else Q x3 (SH, M, L)) :
    zEx (d + 1) m_la_readyLetters zb0 Q 13 ([zR r0, zR r1, zI x2, zI x3, zI x4, v5], [zI sx0, zI sx1], SH, M, L) := zEx_run [7, 13, 22, 31] 2 (by decide) (zit (c := sx1 < sx0) h (fun h => zkq_i hr1.1 (h)) (fun h => h))
set_option maxRecDepth 20000 in
theorem g_la_readyLetters_22 {d : Nat} {M L : zM} {Q : Int → zW → Prop} {r0 r1 : Nat} {x2 x3 x4 sx0 : Int} {v5 : zV} (hr0 : zLaw r0) (hr1 : zRow r1)
    (h : zEv d m_la_passedBy [zR r0, zI sx0] (SH, M, L) (fun x w => zEx (d + 1) m_la_readyLetters zb0 Q 31 ([zR r0, zR r1, zI x2, zI x3, zI x4, zI sx0], [zI x, zI x2], w))) :
    zEx (d + 1) m_la_readyLetters zb0 Q 22 ([zR r0, zR r1, zI x2, zI x3, zI x4, v5], [zI sx0], SH, M, L) := zEx_run [7, 13, 22, 31] 2 (by decide) (zkq_i hr0.1 (h))
set_option maxRecDepth 20000 in
theorem g_la_readyLetters_31 {d : Nat} {M L : zM} {Q : Int → zW → Prop} {r0 r1 : Nat} {x2 x3 x4 x5 sx0 sx1 : Int} (hr0 : zLaw r0) (hr1 : zRow r1)
    (h : if zand sx1 (zxor sx0 (-1)) = 0 then zEx (d + 1) m_la_readyLetters zb0 Q 7 ([zR r0, zR r1, zI (zor x2 (zshl 1 x5)), zI (zor x3 (zshl 1 x5)), zI (zwr (x4 + 1)), zI x5], [], SH, M, L) else zEx (d + 1) m_la_readyLetters zb0 Q 7 ([zR r0, zR r1, zI (zor x2 (zshl 1 x5)), zI x3, zI (zwr (x4 + 1)), zI x5], [], SH, M, L)) :
    zEx (d + 1) m_la_readyLetters zb0 Q 31 ([zR r0, zR r1, zI x2, zI x3, zI x4, zI x5], [zI sx0, zI sx1], SH, M, L) := zEx_run [7, 13, 22, 31] 3 (by decide) (h)
set_option maxRecDepth 20000 in
theorem g_la_howManyLow_0 {d : Nat} {M L : zM} {Q : Int → zW → Prop} {r0 : Nat} {x1 : Int} (hr0 : zLaw r0)
    (h : zEx (d + 1) m_la_howManyLow zb0 Q 4 ([zR r0, zI x1, zI 0, zI 0], [], SH, M, L)) :
    zEx (d + 1) m_la_howManyLow zb0 Q 0 ([zR r0, zI x1, zN, zN], [], SH, M, L) := zEx_run [4] 2 (by decide) (h)
set_option maxRecDepth 20000 in
theorem g_la_howManyLow_4 {d : Nat} {M L : zM} {Q : Int → zW → Prop} {r0 : Nat} {x1 x2 x3 : Int} (hr0 : zLaw r0)
    (h : if x3 < 6 then if zand (zshr x1 x3) 1 = 1 then zck (0 ≤ x3 ∧ x3 < zln SH (r0 + 2)) (if M (r0 + 2) (Int.toNat x3) < 3 then zEx (d + 1) m_la_howManyLow zb0 Q 4 ([zR r0, zI x1, zI (zwr (x2 + 1)), zI (zwr (x3 + 1))], [], SH, M, L) else zEx (d + 1) m_la_howManyLow zb0 Q 4 ([zR r0, zI x1, zI x2, zI (zwr (x3 + 1))], [], SH, M, L)) else zEx (d + 1) m_la_howManyLow zb0 Q 4 ([zR r0, zI x1, zI x2, zI (zwr (x3 + 1))], [], SH, M, L) else Q x2 (SH, M, L)) :
    zEx (d + 1) m_la_howManyLow zb0 Q 4 ([zR r0, zI x1, zI x2, zI x3], [], SH, M, L) := zEx_run [4] 3 (by decide) (zit (c := x3 < 6) h (fun h => zit (c := zand (zshr x1 x3) 1 = 1) h (fun h => zkq_i hr0.1 (zom_i hr0.2.2.2.1 (zixm hr0.2.2.2.2.1 h (fun h => h)))) (fun h => h)) (fun h => h))
set_option maxRecDepth 20000 in
theorem g_la_howManyTied_0 {d : Nat} {M L : zM} {Q : Int → zW → Prop} {r0 r1 : Nat} {x2 x3 : Int} (hr0 : zLaw r0) (hr1 : zRow r1)
    (h : zEv d m_ro_get [zR r1, zI x2] (SH, M, L) (fun x w => zEx (d + 1) m_la_howManyTied zb0 Q 6 ([zR r0, zR r1, zI x2, zI x3, zN, zN, zN, zN], [zI x, zI 1], w))) :
    zEx (d + 1) m_la_howManyTied zb0 Q 0 ([zR r0, zR r1, zI x2, zI x3, zN, zN, zN, zN], [], SH, M, L) := zEx_run [6, 17, 32, 41, 51] 2 (by decide) (zkq_i hr1.1 (h))
set_option maxRecDepth 20000 in
theorem g_la_howManyTied_6 {d : Nat} {M L : zM} {Q : Int → zW → Prop} {r0 r1 : Nat} {x2 x3 sx0 sx1 : Int} (hr0 : zLaw r0) (hr1 : zRow r1)
    (h : zEx (d + 1) m_la_howManyTied zb0 Q 17 ([zR r0, zR r1, zI x2, zI x3, zI (zshl sx1 sx0), zI 0, zI (zwr (x2 + x3)), zN], [], SH, M, L)) :
    zEx (d + 1) m_la_howManyTied zb0 Q 6 ([zR r0, zR r1, zI x2, zI x3, zN, zN, zN, zN], [zI sx0, zI sx1], SH, M, L) := zEx_run [6, 17, 32, 41, 51] 2 (by decide) (h)
set_option maxRecDepth 20000 in
theorem g_la_howManyTied_17 {d : Nat} {M L : zM} {Q : Int → zW → Prop} {r0 r1 : Nat} {x2 x3 x4 x5 x6 : Int} {v7 : zV} (hr0 : zLaw r0) (hr1 : zRow r1)
    (h : if x3 = 0 then Q x5 (SH, M, L) else if x6 < 0 then Q x5 (SH, M, L) else zEv d m_ro_size [zR r1] (SH, M, L) (fun x w => zEx (d + 1) m_la_howManyTied zb0 Q 32 ([zR r0, zR r1, zI x2, zI x3, zI x4, zI x5, zI x6, v7], [zI x, zI x6], w))) :
    zEx (d + 1) m_la_howManyTied zb0 Q 17 ([zR r0, zR r1, zI x2, zI x3, zI x4, zI x5, zI x6, v7], [], SH, M, L) := zEx_run [6, 17, 32, 41, 51] 2 (by decide) (zit (c := x3 = 0) h (fun h => h) (fun h => zit (c := x6 < 0) h (fun h => h) (fun h => zkq_i hr1.1 (h))))
set_option maxRecDepth 20000 in
theorem g_la_howManyTied_32 {d : Nat} {M L : zM} {Q : Int → zW → Prop} {r0 r1 : Nat} {x2 x3 x4 x5 x6 sx0 sx1 : Int} {v7 : zV} (hr0 : zLaw r0) (hr1 : zRow r1)
    (h : if sx1 < sx0 then zEv d m_ro_get [zR r1, zI x6] (SH, M, L) (fun x w => zEx (d + 1) m_la_howManyTied zb0 Q 41 ([zR r0, zR r1, zI x2, zI x3, zI x4, zI x5, zI x6, v7], [zI x], w)) else Q x5 (SH, M, L)) :
    zEx (d + 1) m_la_howManyTied zb0 Q 32 ([zR r0, zR r1, zI x2, zI x3, zI x4, zI x5, zI x6, v7], [zI sx0, zI sx1], SH, M, L) := zEx_run [6, 17, 32, 41, 51] 2 (by decide) (zit (c := sx1 < sx0) h (fun h => zkq_i hr1.1 (h)) (fun h => h))
set_option maxRecDepth 20000 in
theorem g_la_howManyTied_41 {d : Nat} {M L : zM} {Q : Int → zW → Prop} {r0 r1 : Nat} {x2 x3 x4 x5 x6 sx0 : Int} {v7 : zV} (hr0 : zLaw r0) (hr1 : zRow r1)
    (h : zEv d m_la_passedBy [zR r0, zI sx0] (SH, M, L) (fun x w => zEx (d + 1) m_la_howManyTied zb0 Q 51 ([zR r0, zR r1, zI x2, zI x3, zI x4, zI x5, zI x6, zI sx0], [zI x, zI x4], w))) :
    zEx (d + 1) m_la_howManyTied zb0 Q 41 ([zR r0, zR r1, zI x2, zI x3, zI x4, zI x5, zI x6, v7], [zI sx0], SH, M, L) := zEx_run [6, 17, 32, 41, 51] 2 (by decide) (zkq_i hr0.1 (h))
set_option maxRecDepth 20000 in
theorem g_la_howManyTied_51 {d : Nat} {M L : zM} {Q : Int → zW → Prop} {r0 r1 : Nat} {x2 x3 x4 x5 x6 x7 sx0 sx1 : Int} (hr0 : zLaw r0) (hr1 : zRow r1)
    (h : if zand sx1 (zxor sx0 (-1)) = 0 then zEx (d + 1) m_la_howManyTied zb0 Q 17 ([zR r0, zR r1, zI x2, zI x3, zI x4, zI x5, zI (zwr (x6 + x3)), zI x7], [], SH, M, L) else zEx (d + 1) m_la_howManyTied zb0 Q 17 ([zR r0, zR r1, zI x2, zI x3, zI (zor x4 (zshl 1 x7)), zI (zwr (x5 + 1)), zI (zwr (x6 + x3)), zI x7], [], SH, M, L)) :
    zEx (d + 1) m_la_howManyTied zb0 Q 51 ([zR r0, zR r1, zI x2, zI x3, zI x4, zI x5, zI x6, zI x7], [zI sx0, zI sx1], SH, M, L) := zEx_run [6, 17, 32, 41, 51] 3 (by decide) (h)
set_option maxRecDepth 20000 in
theorem g_la_partOf_0 {d : Nat} {M L : zM} {Q : Int → zW → Prop} {r0 : Nat} {x1 x2 : Int} (hr0 : zLaw r0)
    (h : zEx (d + 1) m_la_partOf zb0 Q 9 ([zR r0, zI x1, zI x2, zI (zand x2 (zshl 1 x1)), zI 0, zN], [], SH, M, L)) :
    zEx (d + 1) m_la_partOf zb0 Q 0 ([zR r0, zI x1, zI x2, zN, zN, zN], [], SH, M, L) := zEx_run [9, 19] 2 (by decide) (h)
set_option maxRecDepth 20000 in
theorem g_la_partOf_9 {d : Nat} {M L : zM} {Q : Int → zW → Prop} {r0 : Nat} {x1 x2 x3 x4 : Int} {v5 : zV} (hr0 : zLaw r0)
    (h : if x4 < 6 then zEx (d + 1) m_la_partOf zb0 Q 19 ([zR r0, zI x1, zI x2, zI x3, zI x4, zI 0], [], SH, M, L) else Q x3 (SH, M, L)) :
    zEx (d + 1) m_la_partOf zb0 Q 9 ([zR r0, zI x1, zI x2, zI x3, zI x4, v5], [], SH, M, L) := zEx_run [9, 19] 2 (by decide) (h)
set_option maxRecDepth 20000 in
theorem g_la_partOf_19 {d : Nat} {M L : zM} {Q : Int → zW → Prop} {r0 : Nat} {x1 x2 x3 x4 x5 : Int} (hr0 : zLaw r0)
    (h : if x5 < 6 then if zand (zshr x3 x5) 1 = 1 then zck (0 ≤ x5 ∧ x5 < zln SH (r0 + 1)) (zEx (d + 1) m_la_partOf zb0 Q 19 ([zR r0, zI x1, zI x2, zI (zor x3 (zand x2 (zxor (M (r0 + 1) (Int.toNat x5)) (-1)))), zI x4, zI (zwr (x5 + 1))], [], SH, M, L)) else zEx (d + 1) m_la_partOf zb0 Q 19 ([zR r0, zI x1, zI x2, zI x3, zI x4, zI (zwr (x5 + 1))], [], SH, M, L) else zEx (d + 1) m_la_partOf zb0 Q 9 ([zR r0, zI x1, zI x2, zI x3, zI (zwr (x4 + 1)), zI x5], [], SH, M, L)) :
    zEx (d + 1) m_la_partOf zb0 Q 19 ([zR r0, zI x1, zI x2, zI x3, zI x4, zI x5], [], SH, M, L) := zEx_run [9, 19] 3 (by decide) (zit (c := x5 < 6) h (fun h => zit (c := zand (zshr x3 x5) 1 = 1) h (fun h => zkq_i hr0.1 (zom_i hr0.2.1 (zixm hr0.2.2.1 h (fun h => h)))) (fun h => h)) (fun h => h))
set_option maxRecDepth 20000 in
theorem g_la_howManyParts_0 {d : Nat} {M L : zM} {Q : Int → zW → Prop} {r0 : Nat} {x1 : Int} (hr0 : zLaw r0)
    (h : zEx (d + 1) m_la_howManyParts zb0 Q 7 ([zR r0, zI x1, zI x1, zI 0, zI 0], [], SH, M, L)) :
    zEx (d + 1) m_la_howManyParts zb0 Q 0 ([zR r0, zI x1, zN, zN, zN], [], SH, M, L) := zEx_run [7, 32] 2 (by decide) (h)
set_option maxRecDepth 20000 in
theorem g_la_howManyParts_7 {d : Nat} {M L : zM} {Q : Int → zW → Prop} {r0 : Nat} {x1 x2 x3 x4 : Int} (hr0 : zLaw r0)
    (h : if x4 < 6 then if zand (zshr x2 x4) 1 = 1 then zEv d m_la_partOf [zR r0, zI x4, zI x1] (SH, M, L) (fun x w => zEx (d + 1) m_la_howManyParts zb0 Q 32 ([zR r0, zI x1, zI x2, zI x3, zI x4], [zI x, zI x2], w)) else zEx (d + 1) m_la_howManyParts zb0 Q 7 ([zR r0, zI x1, zI x2, zI x3, zI (zwr (x4 + 1))], [], SH, M, L) else Q x3 (SH, M, L)) :
    zEx (d + 1) m_la_howManyParts zb0 Q 7 ([zR r0, zI x1, zI x2, zI x3, zI x4], [], SH, M, L) := zEx_run [7, 32] 3 (by decide) (zit (c := x4 < 6) h (fun h => zit (c := zand (zshr x2 x4) 1 = 1) h (fun h => zkq_i hr0.1 (h)) (fun h => h)) (fun h => h))
set_option maxRecDepth 20000 in
theorem g_la_howManyParts_32 {d : Nat} {M L : zM} {Q : Int → zW → Prop} {r0 : Nat} {x1 x2 x3 x4 sx0 sx1 : Int} (hr0 : zLaw r0)
    (h : zEx (d + 1) m_la_howManyParts zb0 Q 7 ([zR r0, zI x1, zI (zand sx1 (zxor sx0 (-1))), zI (zwr (x3 + 1)), zI (zwr (x4 + 1))], [], SH, M, L)) :
    zEx (d + 1) m_la_howManyParts zb0 Q 32 ([zR r0, zI x1, zI x2, zI x3, zI x4], [zI sx0, zI sx1], SH, M, L) := zEx_run [7, 32] 3 (by decide) (h)
set_option maxRecDepth 20000 in
theorem g_la_isFree_0 {d : Nat} {M L : zM} {Q : Int → zW → Prop} {r0 : Nat} {x1 : Int} (hr0 : zLaw r0)
    (h : zEx (d + 1) m_la_isFree zb0 Q 2 ([zR r0, zI x1, zI 0, zN], [], SH, M, L)) :
    zEx (d + 1) m_la_isFree zb0 Q 0 ([zR r0, zI x1, zN, zN], [], SH, M, L) := zEx_run [2] 2 (by decide) (h)
set_option maxRecDepth 20000 in
theorem g_la_isFree_2 {d : Nat} {M L : zM} {Q : Int → zW → Prop} {r0 : Nat} {x1 x2 : Int} {v3 : zV} (hr0 : zLaw r0)
    (h : if x2 < 6 then if zand (zshr x1 x2) 1 = 1 then zck (0 ≤ x2 ∧ x2 < zln SH (r0 + 1)) (if zand (zand x1 (zxor (zshl 1 x2) (-1))) (zxor (M (r0 + 1) (Int.toNat x2)) (-1)) = 0 then zEx (d + 1) m_la_isFree zb0 Q 2 ([zR r0, zI x1, zI (zwr (x2 + 1)), zI (zand x1 (zxor (zshl 1 x2) (-1)))], [], SH, M, L) else Q 0 (SH, M, L)) else zEx (d + 1) m_la_isFree zb0 Q 2 ([zR r0, zI x1, zI (zwr (x2 + 1)), zI (zand x1 (zxor (zshl 1 x2) (-1)))], [], SH, M, L) else Q 1 (SH, M, L)) :
    zEx (d + 1) m_la_isFree zb0 Q 2 ([zR r0, zI x1, zI x2, v3], [], SH, M, L) := zEx_run [2] 3 (by decide) (zit (c := x2 < 6) h (fun h => zit (c := zand (zshr x1 x2) 1 = 1) h (fun h => zkq_i hr0.1 (zom_i hr0.2.1 (zixm hr0.2.2.1 h (fun h => h)))) (fun h => h)) (fun h => h))
set_option maxRecDepth 20000 in
theorem g_la_howManyFree_0 {d : Nat} {M L : zM} {Q : Int → zW → Prop} {r0 : Nat} (hr0 : zLaw r0)
    (h : zEx (d + 1) m_la_howManyFree zb0 Q 4 ([zR r0, zI 0, zI 0], [], SH, M, L)) :
    zEx (d + 1) m_la_howManyFree zb0 Q 0 ([zR r0, zN, zN], [], SH, M, L) := zEx_run [4, 15] 2 (by decide) (h)
set_option maxRecDepth 20000 in
theorem g_la_howManyFree_4 {d : Nat} {M L : zM} {Q : Int → zW → Prop} {r0 : Nat} {x1 x2 : Int} (hr0 : zLaw r0)
    (h : if x2 < 64 then zEv d m_la_isFree [zR r0, zI x2] (SH, M, L) (fun x w => zEx (d + 1) m_la_howManyFree zb0 Q 15 ([zR r0, zI x1, zI x2], [zI x], w)) else Q x1 (SH, M, L)) :
    zEx (d + 1) m_la_howManyFree zb0 Q 4 ([zR r0, zI x1, zI x2], [], SH, M, L) := zEx_run [4, 15] 2 (by decide) (zit (c := x2 < 64) h (fun h => zkq_i hr0.1 (h)) (fun h => h))
set_option maxRecDepth 20000 in
theorem g_la_howManyFree_15 {d : Nat} {M L : zM} {Q : Int → zW → Prop} {r0 : Nat} {x1 x2 sx0 : Int} (hr0 : zLaw r0)
    (h : if sx0 = 0 then zEx (d + 1) m_la_howManyFree zb0 Q 4 ([zR r0, zI x1, zI (zwr (x2 + 1))], [], SH, M, L) else zEx (d + 1) m_la_howManyFree zb0 Q 4 ([zR r0, zI (zwr (x1 + 1)), zI (zwr (x2 + 1))], [], SH, M, L)) :
    zEx (d + 1) m_la_howManyFree zb0 Q 15 ([zR r0, zI x1, zI x2], [zI sx0], SH, M, L) := zEx_run [4, 15] 3 (by decide) (h)
set_option maxRecDepth 20000 in
theorem g_la_drawLots_0 {d : Nat} {M L : zM} {Q : Int → zW → Prop} {r0 r1 : Nat} {x2 x3 : Int} (hr0 : zLaw r0) (hr1 : zRow r1)
    (h : zEv d m_ro_size [zR r1] (SH, M, L) (fun x w => zEx (d + 1) m_la_drawLots zb0 Q 4 ([zR r0, zR r1, zI x2, zI x3, zN, zN, zN, zN, zN], [zI x], w))) :
    zEx (d + 1) m_la_drawLots zb0 Q 0 ([zR r0, zR r1, zI x2, zI x3, zN, zN, zN, zN, zN], [], SH, M, L) := zEx_run [4, 25, 62, 70, 73, 82] 2 (by decide) (zkq_i hr1.1 (h))
set_option maxRecDepth 20000 in
theorem g_la_drawLots_4 {d : Nat} {M L : zM} {Q : Int → zW → Prop} {r0 r1 : Nat} {x2 x3 sx0 : Int} (hr0 : zLaw r0) (hr1 : zRow r1)
    (h : if zwr (sx0 - 1) < 1 then Q 0 (SH, M, L) else zEx (d + 1) m_la_drawLots zb0 Q 25 ([zR r0, zR r1, zI x2, zI x3, zI (zwr (sx0 - 1)), zI x3, zI 0, zI 0, zN], [], SH, M, L)) :
    zEx (d + 1) m_la_drawLots zb0 Q 4 ([zR r0, zR r1, zI x2, zI x3, zN, zN, zN, zN, zN], [zI sx0], SH, M, L) := zEx_run [4, 25, 62, 70, 73, 82] 3 (by decide) (h)
set_option maxRecDepth 20000 in
theorem g_la_drawLots_25 {d : Nat} {M L : zM} {Q : Int → zW → Prop} {r0 r1 : Nat} {x2 x3 x4 x5 x6 x7 : Int} {v8 : zV} (hr0 : zLaw r0) (hr1 : zRow r1)
    (h : if x7 < x2 then zck (x4 ≠ 0) (zEv d m_ro_get [zR r1, zI (zrem (zdiv (zand (zwr ((zwr (x5 * 1664525)) + 1013904223)) 2147483647) 256) x4)] (SH, M, L) (fun x w => zEx (d + 1) m_la_drawLots zb0 Q 62 ([zR r0, zR r1, zI x2, zI x3, zI x4, zI (zwr ((zwr (x5 * 1664525)) + 1013904223)), zI x6, zI x7, zI (zrem (zdiv (zand (zwr ((zwr (x5 * 1664525)) + 1013904223)) 2147483647) 256) x4)], [zI x, zR r0], w))) else Q x6 (SH, M, L)) :
    zEx (d + 1) m_la_drawLots zb0 Q 25 ([zR r0, zR r1, zI x2, zI x3, zI x4, zI x5, zI x6, zI x7, v8], [], SH, M, L) := zEx_run [4, 25, 62, 70, 73, 82] 2 (by decide) (zit (c := x7 < x2) h (fun h => zckm h (fun h => zkq_i hr1.1 (h))) (fun h => h))
set_option maxRecDepth 20000 in
theorem g_la_drawLots_62 {d : Nat} {M L : zM} {Q : Int → zW → Prop} {r0 r1 sr1 : Nat} {x2 x3 x4 x5 x6 x7 x8 sx0 : Int} (hr0 : zLaw r0) (hr1 : zRow r1) (hsr1 : zLaw sr1)
    (h : zEv d m_ro_get [zR r1, zI (zwr (x8 + 1))] (SH, M, L) (fun x w => zEx (d + 1) m_la_drawLots zb0 Q 70 ([zR r0, zR r1, zI x2, zI x3, zI x4, zI x5, zI x6, zI x7, zI x8], [zI x, zI sx0, zR sr1], w))) :
    zEx (d + 1) m_la_drawLots zb0 Q 62 ([zR r0, zR r1, zI x2, zI x3, zI x4, zI x5, zI x6, zI x7, zI x8], [zI sx0, zR sr1], SH, M, L) := zEx_run [4, 25, 62, 70, 73, 82] 2 (by decide) (zkq_i hr1.1 (h))
set_option maxRecDepth 20000 in
theorem g_la_drawLots_70 {d : Nat} {M L : zM} {Q : Int → zW → Prop} {r0 r1 sr2 : Nat} {x2 x3 x4 x5 x6 x7 x8 sx0 sx1 : Int} (hr0 : zLaw r0) (hr1 : zRow r1) (hsr2 : zLaw sr2)
    (h : zEv d m_la_letPass [zR sr2, zI sx1, zI sx0] (SH, M, L) (fun x w => zEx (d + 1) m_la_drawLots zb0 Q 73 ([zR r0, zR r1, zI x2, zI x3, zI x4, zI x5, zI x6, zI x7, zI x8], [zI x], w))) :
    zEx (d + 1) m_la_drawLots zb0 Q 70 ([zR r0, zR r1, zI x2, zI x3, zI x4, zI x5, zI x6, zI x7, zI x8], [zI sx0, zI sx1, zR sr2], SH, M, L) := zEx_run [4, 25, 62, 70, 73, 82] 2 (by decide) (zkq_i hsr2.1 (h))
set_option maxRecDepth 20000 in
theorem g_la_drawLots_73 {d : Nat} {M L : zM} {Q : Int → zW → Prop} {r0 r1 : Nat} {x2 x3 x4 x5 x6 x7 x8 sx0 : Int} (hr0 : zLaw r0) (hr1 : zRow r1)
    (h : if sx0 = 0 then zEx (d + 1) m_la_drawLots zb0 Q 25 ([zR r0, zR r1, zI x2, zI x3, zI x4, zI x5, zI x6, zI (zwr (x7 + 1)), zI x8], [], SH, M, L) else zEv d m_ro_swapWithNext [zR r1, zI x8] (SH, M, L) (fun _ w => zEx (d + 1) m_la_drawLots zb0 Q 82 ([zR r0, zR r1, zI x2, zI x3, zI x4, zI x5, zI x6, zI x7, zI x8], [], w))) :
    zEx (d + 1) m_la_drawLots zb0 Q 73 ([zR r0, zR r1, zI x2, zI x3, zI x4, zI x5, zI x6, zI x7, zI x8], [zI sx0], SH, M, L) := zEx_run [4, 25, 62, 70, 73, 82] 3 (by decide) (zit (c := sx0 = 0) h (fun h => h) (fun h => zkq_i hr1.1 (h)))
set_option maxRecDepth 20000 in
theorem g_la_drawLots_82 {d : Nat} {M L : zM} {Q : Int → zW → Prop} {r0 r1 : Nat} {x2 x3 x4 x5 x6 x7 x8 : Int} (hr0 : zLaw r0) (hr1 : zRow r1)
    (h : zEx (d + 1) m_la_drawLots zb0 Q 25 ([zR r0, zR r1, zI x2, zI x3, zI x4, zI x5, zI (zwr (x6 + 1)), zI (zwr (x7 + 1)), zI x8], [], SH, M, L)) :
    zEx (d + 1) m_la_drawLots zb0 Q 82 ([zR r0, zR r1, zI x2, zI x3, zI x4, zI x5, zI x6, zI x7, zI x8], [], SH, M, L) := zEx_run [4, 25, 62, 70, 73, 82] 3 (by decide) (h)
set_option maxRecDepth 20000 in
theorem g_sh_size_0 {d : Nat} {M L : zM} {Q : Int → zW → Prop} {r0 : Nat} (hr0 : zShf r0)
    (h : Q (M r0 2) (SH, M, L)) :
    zEx (d + 1) m_sh_size zb0 Q 0 ([zR r0], [], SH, M, L) := zEx_run [] 2 (by decide) (zkq_i hr0.1 (h))
set_option maxRecDepth 20000 in
theorem g_sh_isFull_0 {d : Nat} {M L : zM} {Q : Int → zW → Prop} {r0 : Nat} (hr0 : zShf r0)
    (h : if M r0 2 < 5 then Q 0 (SH, M, L) else Q 1 (SH, M, L)) :
    zEx (d + 1) m_sh_isFull zb0 Q 0 ([zR r0], [], SH, M, L) := zEx_run [] 3 (by decide) (zkq_i hr0.1 (h))
set_option maxRecDepth 20000 in
theorem g_sh_row_0 {d : Nat} {M L : zM} {Q : Int → zW → Prop} {r0 : Nat} {x1 : Int} (hr0 : zShf r0)
    (h : if x1 < 0 then Q (((r0 + 2) : Nat) : Int) (SH, M, L) else if x1 < M r0 2 then zck (0 ≤ x1 ∧ x1 < zln SH (r0 + 1)) (zom (zrf SH (r0 + 1) (Int.toNat x1)) (fun q1 => Q ((q1 : Nat) : Int) (SH, M, L))) else Q (((r0 + 2) : Nat) : Int) (SH, M, L)) :
    zEx (d + 1) m_sh_row zb0 Q 0 ([zR r0, zI x1], [], SH, M, L) := zEx_run [] 3 (by decide) (zit (c := x1 < 0) h (fun h => zkq_i hr0.1 (zom_i hr0.2.2.2.1 (h))) (fun h => zkq_i hr0.1 (zit (c := x1 < M r0 2) h (fun h => zkq_i hr0.1 (zom_i hr0.2.1 (zixm hr0.2.2.1 h (fun h => h)))) (fun h => zkq_i hr0.1 (zom_i hr0.2.2.2.1 (h))))))
set_option maxRecDepth 20000 in
theorem g_sh_place_0 {d : Nat} {M L : zM} {Q : Int → zW → Prop} {r0 r1 : Nat} (hr0 : zShf r0) (hr1 : zRow r1)
    (h : zEv d m_sh_isFull [zR r0] (SH, M, L) (fun x w => zEx (d + 1) m_sh_place zb0 Q 4 ([zR r0, zR r1], [zI x], w))) :
    zEx (d + 1) m_sh_place zb0 Q 0 ([zR r0, zR r1], [], SH, M, L) := zEx_run [4, 23] 2 (by decide) (zkq_i hr0.1 (h))
set_option maxRecDepth 20000 in
theorem g_sh_place_4 {d : Nat} {M L : zM} {Q : Int → zW → Prop} {r0 r1 : Nat} {sx0 : Int} (hr0 : zShf r0) (hr1 : zRow r1)
    (h : if sx0 = 0 then zck (0 ≤ M r0 2 ∧ M r0 2 < zln SH (r0 + 1)) (zom (zrf SH (r0 + 1) (Int.toNat (M r0 2))) (fun q1 => zkq (zkd SH q1) 5 (zEv d m_ro_copy [zR q1, zR r1] (SH, M, L) (fun _ w => zEx (d + 1) m_sh_place zb0 Q 23 ([zR r0, zR r1], [], w))))) else Q (-9) (SH, M, L)) :
    zEx (d + 1) m_sh_place zb0 Q 4 ([zR r0, zR r1], [zI sx0], SH, M, L) := zEx_run [4, 23] 2 (by decide) (zit (c := sx0 = 0) h (fun h => zkq_i hr0.1 (zom_i hr0.2.1 (zkq_i hr0.1 (zixm hr0.2.2.1 h (fun h => h))))) (fun h => h))
set_option maxRecDepth 20000 in
theorem g_sh_place_23 {d : Nat} {M L : zM} {Q : Int → zW → Prop} {r0 r1 : Nat} (hr0 : zShf r0) (hr1 : zRow r1)
    (h : Q (zwr (((zmu M r0 2 (zwr ((M r0 2) + 1))) r0 2) - 1)) (SH, (zmu M r0 2 (zwr ((M r0 2) + 1))), L)) :
    zEx (d + 1) m_sh_place zb0 Q 23 ([zR r0, zR r1], [], SH, M, L) := zEx_run [4, 23] 2 (by decide) (zkq_i hr0.1 (zkq_i hr0.1 (zkq_i hr0.1 (h))))
set_option maxRecDepth 20000 in
theorem g_sh_removeLast_0 {d : Nat} {M L : zM} {Q : Int → zW → Prop} {r0 : Nat} (hr0 : zShf r0)
    (h : if 0 < M r0 2 then Q 0 (SH, (zmu M r0 2 (zwr ((M r0 2) - 1))), L) else Q 0 (SH, M, L)) :
    zEx (d + 1) m_sh_removeLast zb0 Q 0 ([zR r0], [], SH, M, L) := zEx_run [] 2 (by decide) (zkq_i hr0.1 (zit (c := 0 < M r0 2) h (fun h => zkq_i hr0.1 (zkq_i hr0.1 (h))) (fun h => h)))
set_option maxRecDepth 20000 in
theorem g_sh_copy_0 {d : Nat} {M L : zM} {Q : Int → zW → Prop} {r0 r1 : Nat} (hr0 : zShf r0) (hr1 : zShf r1)
    (h : zEx (d + 1) m_sh_copy zb0 Q 10 ([zR r0, zR r1, zI 0], [], SH, (zmu M r0 2 (M r1 2)), L)) :
    zEx (d + 1) m_sh_copy zb0 Q 0 ([zR r0, zR r1, zN], [], SH, M, L) := zEx_run [10, 33] 2 (by decide) (zkq_i hr1.1 (zkq_i hr0.1 (h)))
set_option maxRecDepth 20000 in
theorem g_sh_copy_10 {d : Nat} {M L : zM} {Q : Int → zW → Prop} {r0 r1 : Nat} {x2 : Int} (hr0 : zShf r0) (hr1 : zShf r1)
    (h : if x2 < M r0 2 then zck (0 ≤ x2 ∧ x2 < zln SH (r0 + 1)) (zom (zrf SH (r0 + 1) (Int.toNat x2)) (fun q1 => zck (0 ≤ x2 ∧ x2 < zln SH (r1 + 1)) (zom (zrf SH (r1 + 1) (Int.toNat x2)) (fun q2 => zkq (zkd SH q1) 5 (zEv d m_ro_copy [zR q1, zR q2] (SH, M, L) (fun _ w => zEx (d + 1) m_sh_copy zb0 Q 33 ([zR r0, zR r1, zI x2], [], w))))))) else Q 0 (SH, M, L)) :
    zEx (d + 1) m_sh_copy zb0 Q 10 ([zR r0, zR r1, zI x2], [], SH, M, L) := zEx_run [10, 33] 2 (by decide) (zkq_i hr0.1 (zit (c := x2 < M r0 2) h (fun h => zkq_i hr0.1 (zom_i hr0.2.1 (zixm hr0.2.2.1 h (fun h => zomm h (fun q1 h => zkq_i hr1.1 (zom_i hr1.2.1 (zixm hr1.2.2.1 h (fun h => h)))))))) (fun h => h)))
set_option maxRecDepth 20000 in
theorem g_sh_copy_33 {d : Nat} {M L : zM} {Q : Int → zW → Prop} {r0 r1 : Nat} {x2 : Int} (hr0 : zShf r0) (hr1 : zShf r1)
    (h : zEx (d + 1) m_sh_copy zb0 Q 10 ([zR r0, zR r1, zI (zwr (x2 + 1))], [], SH, M, L)) :
    zEx (d + 1) m_sh_copy zb0 Q 33 ([zR r0, zR r1, zI x2], [], SH, M, L) := zEx_run [10, 33] 2 (by decide) (h)
set_option maxRecDepth 20000 in
theorem g_sh_allLetters_0 {d : Nat} {M L : zM} {Q : Int → zW → Prop} {r0 : Nat} (hr0 : zShf r0)
    (h : zEx (d + 1) m_sh_allLetters zb0 Q 4 ([zR r0, zI 0, zI 0], [], SH, M, L)) :
    zEx (d + 1) m_sh_allLetters zb0 Q 0 ([zR r0, zN, zN], [], SH, M, L) := zEx_run [4, 22] 2 (by decide) (h)
set_option maxRecDepth 20000 in
theorem g_sh_allLetters_4 {d : Nat} {M L : zM} {Q : Int → zW → Prop} {r0 : Nat} {x1 x2 : Int} (hr0 : zShf r0)
    (h : if x2 < M r0 2 then zck (0 ≤ x2 ∧ x2 < zln SH (r0 + 1)) (zom (zrf SH (r0 + 1) (Int.toNat x2)) (fun q1 => zkq (zkd SH q1) 5 (zEv d m_ro_size [zR q1] (SH, M, L) (fun x w => zEx (d + 1) m_sh_allLetters zb0 Q 22 ([zR r0, zI x1, zI x2], [zI x, zI x1], w))))) else Q x1 (SH, M, L)) :
    zEx (d + 1) m_sh_allLetters zb0 Q 4 ([zR r0, zI x1, zI x2], [], SH, M, L) := zEx_run [4, 22] 2 (by decide) (zkq_i hr0.1 (zit (c := x2 < M r0 2) h (fun h => zkq_i hr0.1 (zom_i hr0.2.1 (zixm hr0.2.2.1 h (fun h => h)))) (fun h => h)))
set_option maxRecDepth 20000 in
theorem g_sh_allLetters_22 {d : Nat} {M L : zM} {Q : Int → zW → Prop} {r0 : Nat} {x1 x2 sx0 sx1 : Int} (hr0 : zShf r0)
    (h : zEx (d + 1) m_sh_allLetters zb0 Q 4 ([zR r0, zI (zwr (sx1 + sx0)), zI (zwr (x2 + 1))], [], SH, M, L)) :
    zEx (d + 1) m_sh_allLetters zb0 Q 22 ([zR r0, zI x1, zI x2], [zI sx0, zI sx1], SH, M, L) := zEx_run [4, 22] 2 (by decide) (h)
set_option maxRecDepth 20000 in
theorem g_hi_size_0 {d : Nat} {M L : zM} {Q : Int → zW → Prop}  
    (h : Q (M 21 1) (SH, M, L)) :
    zEx (d + 1) m_hi_size zb0 Q 0 ([zR 21], [], SH, M, L) := zEx_run [] 2 (by decide) (h)
set_option maxRecDepth 20000 in
theorem g_hi_clear_0 {d : Nat} {M L : zM} {Q : Int → zW → Prop}  
    (h : Q 0 (SH, (zmu M 21 1 0), L)) :
    zEx (d + 1) m_hi_clear zb0 Q 0 ([zR 21], [], SH, M, L) := zEx_run [] 2 (by decide) (h)
set_option maxRecDepth 20000 in
theorem g_hi_remember_0 {d : Nat} {M L : zM} {Q : Int → zW → Prop} {r1 : Nat} (hr1 : zLaw r1)
    (h : zck (0 ≤ M 21 2 ∧ M 21 2 < 8) (zom (zrf SH 22 (Int.toNat (M 21 2))) (fun q1 => zkq (zkd SH q1) 2 (zEv d m_la_copy [zR q1, zR r1] (SH, M, L) (fun _ w => zEx (d + 1) m_hi_remember zb0 Q 13 ([zR 21, zR r1], [], w)))))) :
    zEx (d + 1) m_hi_remember zb0 Q 0 ([zR 21, zR r1], [], SH, M, L) := zEx_run [13] 2 (by decide) (h)
set_option maxRecDepth 20000 in
theorem g_hi_remember_13 {d : Nat} {M L : zM} {Q : Int → zW → Prop} {r1 : Nat} (hr1 : zLaw r1)
    (h : Q 0 (SH, (zmu (zmu M 21 2 (zrem (zwr ((M 21 2) + 1)) 8)) 21 1 (zmin (zwr (((zmu M 21 2 (zrem (zwr ((M 21 2) + 1)) 8)) 21 1) + 1)) 8)), L)) :
    zEx (d + 1) m_hi_remember zb0 Q 13 ([zR 21, zR r1], [], SH, M, L) := zEx_run [13] 2 (by decide) (h)
set_option maxRecDepth 20000 in
theorem g_hi_takeBack_0 {d : Nat} {M L : zM} {Q : Int → zW → Prop} {r1 : Nat} (hr1 : zLaw r1)
    (h : if M 21 1 = 0 then Q 0 (SH, M, L) else zck (0 ≤ (zmu (zmu M 21 2 (zrem (zwr ((zwr ((M 21 2) + 8)) - 1)) 8)) 21 1 (zwr (((zmu M 21 2 (zrem (zwr ((zwr ((M 21 2) + 8)) - 1)) 8)) 21 1) - 1))) 21 2 ∧ (zmu (zmu M 21 2 (zrem (zwr ((zwr ((M 21 2) + 8)) - 1)) 8)) 21 1 (zwr (((zmu M 21 2 (zrem (zwr ((zwr ((M 21 2) + 8)) - 1)) 8)) 21 1) - 1))) 21 2 < 8) (zom (zrf SH 22 (Int.toNat ((zmu (zmu M 21 2 (zrem (zwr ((zwr ((M 21 2) + 8)) - 1)) 8)) 21 1 (zwr (((zmu M 21 2 (zrem (zwr ((zwr ((M 21 2) + 8)) - 1)) 8)) 21 1) - 1))) 21 2))) (fun q1 => zEv d m_la_copy [zR r1, zR q1] (SH, (zmu (zmu M 21 2 (zrem (zwr ((zwr ((M 21 2) + 8)) - 1)) 8)) 21 1 (zwr (((zmu M 21 2 (zrem (zwr ((zwr ((M 21 2) + 8)) - 1)) 8)) 21 1) - 1))), L) (fun _ w => zEx (d + 1) m_hi_takeBack zb0 Q 47 ([zR 21, zR r1], [], w))))) :
    zEx (d + 1) m_hi_takeBack zb0 Q 0 ([zR 21, zR r1], [], SH, M, L) := zEx_run [47] 2 (by decide) (zit (c := M 21 1 = 0) h (fun h => h) (fun h => zckm h (fun h => zomm h (fun q1 h => zkq_i hr1.1 (h)))))
set_option maxRecDepth 20000 in
theorem g_hi_takeBack_47 {d : Nat} {M L : zM} {Q : Int → zW → Prop} {r1 : Nat} (hr1 : zLaw r1)
    (h : Q 0 (SH, M, L)) :
    zEx (d + 1) m_hi_takeBack zb0 Q 47 ([zR 21, zR r1], [], SH, M, L) := zEx_run [47] 2 (by decide) (h)
set_option maxRecDepth 20000 in
theorem g_nu_lacks_0 {d : Nat} {M L : zM} {Q : Int → zW → Prop} {x1 : Int} 
    (h : zEv d m_lt_noList [zI x1] (SH, M, L) (fun x w => zEx (d + 1) m_nu_lacks zb0 Q 4 ([zR 70, zI x1], [zI x], w))) :
    zEx (d + 1) m_nu_lacks zb0 Q 0 ([zR 70, zI x1], [], SH, M, L) := zEx_run [4] 2 (by decide) (h)
set_option maxRecDepth 20000 in
theorem g_nu_lacks_4 {d : Nat} {M L : zM} {Q : Int → zW → Prop} {x1 sx0 : Int} 
    (h : if sx0 = 0 then zck (0 ≤ x1 ∧ x1 < 3) (if M 72 (Int.toNat x1) = 0 then Q 1 (SH, M, L) else Q 0 (SH, M, L)) else Q 1 (SH, M, L)) :
    zEx (d + 1) m_nu_lacks zb0 Q 4 ([zR 70, zI x1], [zI sx0], SH, M, L) := zEx_run [4] 3 (by decide) (h)
set_option maxRecDepth 20000 in
theorem g_nu_row_0 {d : Nat} {M L : zM} {Q : Int → zW → Prop} {x1 : Int} 
    (h : zEv d m_lt_noList [zI x1] (SH, M, L) (fun x w => zEx (d + 1) m_nu_row zb0 Q 4 ([zR 70, zI x1], [zI x], w))) :
    zEx (d + 1) m_nu_row zb0 Q 0 ([zR 70, zI x1], [], SH, M, L) := zEx_run [4] 2 (by decide) (h)
set_option maxRecDepth 20000 in
theorem g_nu_row_4 {d : Nat} {M L : zM} {Q : Int → zW → Prop} {x1 sx0 : Int} 
    (h : if sx0 = 0 then zck (0 ≤ x1 ∧ x1 < 3) (zom (zrf SH 71 (Int.toNat x1)) (fun q1 => Q ((q1 : Nat) : Int) (SH, M, L))) else Q ((73 : Nat) : Int) (SH, M, L)) :
    zEx (d + 1) m_nu_row zb0 Q 4 ([zR 70, zI x1], [zI sx0], SH, M, L) := zEx_run [4] 3 (by decide) (h)
set_option maxRecDepth 20000 in
theorem g_nu_begin_0 {d : Nat} {M L : zM} {Q : Int → zW → Prop} {x1 x2 : Int} 
    (h : zEv d m_lt_noList [zI x1] (SH, M, L) (fun x w => zEx (d + 1) m_nu_begin zb0 Q 4 ([zR 70, zI x1, zI x2], [zI x], w))) :
    zEx (d + 1) m_nu_begin zb0 Q 0 ([zR 70, zI x1, zI x2], [], SH, M, L) := zEx_run [4, 24, 35] 2 (by decide) (h)
set_option maxRecDepth 20000 in
theorem g_nu_begin_4 {d : Nat} {M L : zM} {Q : Int → zW → Prop} {x1 x2 sx0 : Int} 
    (h : if sx0 = 0 then zck (0 ≤ x1 ∧ x1 < 3) (zck (0 ≤ x1 ∧ x1 < 3) (zom (zrf SH 71 (Int.toNat x1)) (fun q1 => zkq (zkd SH q1) 5 (zEv d m_ro_clear [zR q1] (SH, (zmu M 72 (Int.toNat x1) 1), L) (fun _ w => zEx (d + 1) m_nu_begin zb0 Q 24 ([zR 70, zI x1, zI x2], [], w)))))) else Q 0 (SH, M, L)) :
    zEx (d + 1) m_nu_begin zb0 Q 4 ([zR 70, zI x1, zI x2], [zI sx0], SH, M, L) := zEx_run [4, 24, 35] 2 (by decide) (h)
set_option maxRecDepth 20000 in
theorem g_nu_begin_24 {d : Nat} {M L : zM} {Q : Int → zW → Prop} {x1 x2 : Int} 
    (h : zck (0 ≤ x1 ∧ x1 < 3) (zom (zrf SH 71 (Int.toNat x1)) (fun q1 => zkq (zkd SH q1) 5 (zEv d m_ro_addTimes [zR q1, zI 0, zI x2] (SH, M, L) (fun _ w => zEx (d + 1) m_nu_begin zb0 Q 35 ([zR 70, zI x1, zI x2], [], w)))))) :
    zEx (d + 1) m_nu_begin zb0 Q 24 ([zR 70, zI x1, zI x2], [], SH, M, L) := zEx_run [4, 24, 35] 2 (by decide) (h)
set_option maxRecDepth 20000 in
theorem g_nu_begin_35 {d : Nat} {M L : zM} {Q : Int → zW → Prop} {x1 x2 : Int} 
    (h : Q 0 (SH, M, L)) :
    zEx (d + 1) m_nu_begin zb0 Q 35 ([zR 70, zI x1, zI x2], [], SH, M, L) := zEx_run [4, 24, 35] 2 (by decide) (h)
set_option maxRecDepth 20000 in
theorem g_pa_told_0 {d : Nat} {M L : zM} {Q : Int → zW → Prop}  
    (h : Q ((67 : Nat) : Int) (SH, M, L)) :
    zEx (d + 1) m_pa_told zb0 Q 0 ([zR 66], [], SH, M, L) := zEx_run [] 2 (by decide) (h)
set_option maxRecDepth 20000 in
theorem g_pa_readWord_0 {d : Nat} {M L : zM} {Q : Int → zW → Prop} {r1 : Nat} (hr1 : zRow r1)
    (h : zEv d m_ro_clear [zR 67] (SH, M, L) (fun _ w => zEx (d + 1) m_pa_readWord zb0 Q 7 ([zR 66, zR r1, zN], [], w))) :
    zEx (d + 1) m_pa_readWord zb0 Q 0 ([zR 66, zR r1, zN], [], SH, M, L) := zEx_run [7, 20, 25, 34, 37, 66] 2 (by decide) (h)
set_option maxRecDepth 20000 in
theorem g_pa_readWord_7 {d : Nat} {M L : zM} {Q : Int → zW → Prop} {r1 : Nat} (hr1 : zRow r1)
    (h : zEx (d + 1) m_pa_readWord zb0 Q 20 ([zR 66, zR r1, zI 0], [], SH, (zmu (zmu M 66 2 0) 66 3 (-9)), L)) :
    zEx (d + 1) m_pa_readWord zb0 Q 7 ([zR 66, zR r1, zN], [], SH, M, L) := zEx_run [7, 20, 25, 34, 37, 66] 2 (by decide) (h)
set_option maxRecDepth 20000 in
theorem g_pa_readWord_20 {d : Nat} {M L : zM} {Q : Int → zW → Prop} {r1 : Nat} {x2 : Int} (hr1 : zRow r1)
    (h : zEv d m_ro_size [zR r1] (SH, M, L) (fun x w => zEx (d + 1) m_pa_readWord zb0 Q 25 ([zR 66, zR r1, zI x2], [zI x, zI x2], w))) :
    zEx (d + 1) m_pa_readWord zb0 Q 20 ([zR 66, zR r1, zI x2], [], SH, M, L) := zEx_run [7, 20, 25, 34, 37, 66] 2 (by decide) (zkq_i hr1.1 (h))
set_option maxRecDepth 20000 in
theorem g_pa_readWord_25 {d : Nat} {M L : zM} {Q : Int → zW → Prop} {r1 : Nat} {x2 sx0 sx1 : Int} (hr1 : zRow r1)
    (h : if sx1 < sx0 then zEv d m_ro_get [zR r1, zI x2] (SH, M, L) (fun x w => zEx (d + 1) m_pa_readWord zb0 Q 34 ([zR 66, zR r1, zI x2], [zI x, zR 66], w)) else if 0 < M 66 2 then zEv d m_ro_size [zR r1] (SH, M, L) (fun x w => zEx (d + 1) m_pa_readWord zb0 Q 66 ([zR 66, zR r1, zI x2], [zI x, zI (-1000)], w)) else Q 0 (SH, M, L)) :
    zEx (d + 1) m_pa_readWord zb0 Q 25 ([zR 66, zR r1, zI x2], [zI sx0, zI sx1], SH, M, L) := zEx_run [7, 20, 25, 34, 37, 66] 4 (by decide) (zit (c := sx1 < sx0) h (fun h => zkq_i hr1.1 (h)) (fun h => zit (c := 0 < M 66 2) h (fun h => zkq_i hr1.1 (h)) (fun h => h)))
set_option maxRecDepth 20000 in
theorem g_pa_readWord_34 {d : Nat} {M L : zM} {Q : Int → zW → Prop} {r1 : Nat} {x2 sx0 : Int} (hr1 : zRow r1)
    (h : zEv d m_pa_takeSign [zR 66, zI sx0] (SH, M, L) (fun x w => zEx (d + 1) m_pa_readWord zb0 Q 37 ([zR 66, zR r1, zI x2], [zI x], w))) :
    zEx (d + 1) m_pa_readWord zb0 Q 34 ([zR 66, zR r1, zI x2], [zI sx0, zR 66], SH, M, L) := zEx_run [7, 20, 25, 34, 37, 66] 2 (by decide) (h)
set_option maxRecDepth 20000 in
theorem g_pa_readWord_37 {d : Nat} {M L : zM} {Q : Int → zW → Prop} {r1 : Nat} {x2 sx0 : Int} (hr1 : zRow r1)
    (h : if sx0 = 0 then Q (zwr ((-1000) - x2)) (SH, M, L) else zEx (d + 1) m_pa_readWord zb0 Q 20 ([zR 66, zR r1, zI (zwr (x2 + 1))], [], SH, M, L)) :
    zEx (d + 1) m_pa_readWord zb0 Q 37 ([zR 66, zR r1, zI x2], [zI sx0], SH, M, L) := zEx_run [7, 20, 25, 34, 37, 66] 3 (by decide) (h)
set_option maxRecDepth 20000 in
theorem g_pa_readWord_66 {d : Nat} {M L : zM} {Q : Int → zW → Prop} {r1 : Nat} {x2 sx0 sx1 : Int} (hr1 : zRow r1)
    (h : Q (zwr (sx1 - sx0)) (SH, M, L)) :
    zEx (d + 1) m_pa_readWord zb0 Q 66 ([zR 66, zR r1, zI x2], [zI sx0, zI sx1], SH, M, L) := zEx_run [7, 20, 25, 34, 37, 66] 2 (by decide) (h)
set_option maxRecDepth 20000 in
theorem g_pa_takeSign_0 {d : Nat} {M L : zM} {Q : Int → zW → Prop} {x1 : Int} 
    (h : zEv d m_pa_isLetter [zI x1] (SH, M, L) (fun x w => zEx (d + 1) m_pa_takeSign zb0 Q 4 ([zR 66, zI x1], [zI x], w))) :
    zEx (d + 1) m_pa_takeSign zb0 Q 0 ([zR 66, zI x1], [], SH, M, L) := zEx_run [4, 15, 29, 51, 62, 73] 2 (by decide) (h)
set_option maxRecDepth 20000 in
theorem g_pa_takeSign_4 {d : Nat} {M L : zM} {Q : Int → zW → Prop} {x1 sx0 : Int} 
    (h : if sx0 = 0 then if x1 < 48 then if x1 = 40 then zEv d m_pa_takeOpening [zR 66] (SH, M, L) (fun x w => zEx (d + 1) m_pa_takeSign zb0 Q 62 ([zR 66, zI x1], [zI x], w)) else if x1 = 41 then zEv d m_pa_takeClosing [zR 66] (SH, M, L) (fun x w => zEx (d + 1) m_pa_takeSign zb0 Q 73 ([zR 66, zI x1], [zI x], w)) else Q 0 (SH, M, L) else if 57 < x1 then if x1 = 40 then zEv d m_pa_takeOpening [zR 66] (SH, M, L) (fun x w => zEx (d + 1) m_pa_takeSign zb0 Q 62 ([zR 66, zI x1], [zI x], w)) else if x1 = 41 then zEv d m_pa_takeClosing [zR 66] (SH, M, L) (fun x w => zEx (d + 1) m_pa_takeSign zb0 Q 73 ([zR 66, zI x1], [zI x], w)) else Q 0 (SH, M, L) else zEv d m_pa_takeTimes [zR 66, zI (zwr (x1 - 48))] (SH, M, L) (fun x w => zEx (d + 1) m_pa_takeSign zb0 Q 51 ([zR 66, zI x1], [zI x], w)) else zEv d m_ro_size [zR 67] (SH, M, L) (fun x w => zEx (d + 1) m_pa_takeSign zb0 Q 15 ([zR 66, zI x1], [zI x, zR 66], w))) :
    zEx (d + 1) m_pa_takeSign zb0 Q 4 ([zR 66, zI x1], [zI sx0], SH, M, L) := zEx_run [4, 15, 29, 51, 62, 73] 6 (by decide) (h)
set_option maxRecDepth 20000 in
theorem g_pa_takeSign_15 {d : Nat} {M L : zM} {Q : Int → zW → Prop} {x1 sx0 : Int} 
    (h : zEv d m_ro_add [zR 67, zI (zwr (x1 - 97))] (SH, (zmu M 66 3 sx0), L) (fun _ w => zEx (d + 1) m_pa_takeSign zb0 Q 29 ([zR 66, zI x1], [], w))) :
    zEx (d + 1) m_pa_takeSign zb0 Q 15 ([zR 66, zI x1], [zI sx0, zR 66], SH, M, L) := zEx_run [4, 15, 29, 51, 62, 73] 2 (by decide) (h)
set_option maxRecDepth 20000 in
theorem g_pa_takeSign_29 {d : Nat} {M L : zM} {Q : Int → zW → Prop} {x1 : Int} 
    (h : Q 1 (SH, M, L)) :
    zEx (d + 1) m_pa_takeSign zb0 Q 29 ([zR 66, zI x1], [], SH, M, L) := zEx_run [4, 15, 29, 51, 62, 73] 2 (by decide) (h)
set_option maxRecDepth 20000 in
theorem g_pa_takeSign_51 {d : Nat} {M L : zM} {Q : Int → zW → Prop} {x1 sx0 : Int} 
    (h : zbl sx0 (fun b1 => Q b1 (SH, M, L))) :
    zEx (d + 1) m_pa_takeSign zb0 Q 51 ([zR 66, zI x1], [zI sx0], SH, M, L) := zEx_run [4, 15, 29, 51, 62, 73] 2 (by decide) (h)
set_option maxRecDepth 20000 in
theorem g_pa_takeSign_62 {d : Nat} {M L : zM} {Q : Int → zW → Prop} {x1 sx0 : Int} 
    (h : zbl sx0 (fun b1 => Q b1 (SH, M, L))) :
    zEx (d + 1) m_pa_takeSign zb0 Q 62 ([zR 66, zI x1], [zI sx0], SH, M, L) := zEx_run [4, 15, 29, 51, 62, 73] 2 (by decide) (h)
set_option maxRecDepth 20000 in
theorem g_pa_takeSign_73 {d : Nat} {M L : zM} {Q : Int → zW → Prop} {x1 sx0 : Int} 
    (h : if sx0 = 0 then Q 0 (SH, M, L) else Q 1 (SH, M, L)) :
    zEx (d + 1) m_pa_takeSign zb0 Q 73 ([zR 66, zI x1], [zI sx0], SH, M, L) := zEx_run [4, 15, 29, 51, 62, 73] 3 (by decide) (h)
set_option maxRecDepth 20000 in
theorem g_pa_takeOpening_0 {d : Nat} {M L : zM} {Q : Int → zW → Prop}  
    (h : if M 66 2 < 5 then zEv d m_ro_size [zR 67] (SH, M, L) (fun x w => zEx (d + 1) m_pa_takeOpening zb0 Q 25 ([zR 66], [zI x, zI (M 66 2), zR 69], w)) else Q 0 (SH, M, L)) :
    zEx (d + 1) m_pa_takeOpening zb0 Q 0 ([zR 66], [], SH, M, L) := zEx_run [25] 2 (by decide) (h)
set_option maxRecDepth 20000 in
theorem g_pa_takeOpening_25 {d : Nat} {M L : zM} {Q : Int → zW → Prop} {sx0 sx1 : Int} 
    (h : zck (0 ≤ sx1 ∧ sx1 < 5) (Q 1 (SH, (zmu (zmu (zmu M 69 (Int.toNat sx1) sx0) 66 2 (zwr (((zmu M 69 (Int.toNat sx1) sx0) 66 2) + 1))) 66 3 (-9)), L))) :
    zEx (d + 1) m_pa_takeOpening zb0 Q 25 ([zR 66], [zI sx0, zI sx1, zR 69], SH, M, L) := zEx_run [25] 2 (by decide) (h)
set_option maxRecDepth 20000 in
theorem g_pa_takeClosing_0 {d : Nat} {M L : zM} {Q : Int → zW → Prop}  
    (h : if M 66 2 = 0 then Q 0 (SH, M, L) else zck (0 ≤ (zmu M 66 2 (zwr ((M 66 2) - 1))) 66 2 ∧ (zmu M 66 2 (zwr ((M 66 2) - 1))) 66 2 < 5) (Q 1 (SH, (zmu (zmu M 66 2 (zwr ((M 66 2) - 1))) 66 3 ((zmu M 66 2 (zwr ((M 66 2) - 1))) 69 (Int.toNat ((zmu M 66 2 (zwr ((M 66 2) - 1))) 66 2)))), L))) :
    zEx (d + 1) m_pa_takeClosing zb0 Q 0 ([zR 66], [], SH, M, L) := zEx_run [] 2 (by decide) (h)
set_option maxRecDepth 20000 in
theorem g_pa_takeTimes_0 {d : Nat} {M L : zM} {Q : Int → zW → Prop} {x1 : Int} 
    (h : if M 66 3 = (-9) then Q 0 (SH, M, L) else zEv d m_ro_size [zR 67] (SH, M, L) (fun x w => zEx (d + 1) m_pa_takeTimes zb0 Q 18 ([zR 66, zI x1, zN, zN], [zI x], w))) :
    zEx (d + 1) m_pa_takeTimes zb0 Q 0 ([zR 66, zI x1, zN, zN], [], SH, M, L) := zEx_run [18, 39, 41, 62] 2 (by decide) (h)
set_option maxRecDepth 20000 in
theorem g_pa_takeTimes_18 {d : Nat} {M L : zM} {Q : Int → zW → Prop} {x1 sx0 : Int} 
    (h : if x1 = 0 then zEv d m_ro_shorten [zR 67, zI (M 66 3)] (SH, M, L) (fun _ w => zEx (d + 1) m_pa_takeTimes zb0 Q 39 ([zR 66, zI x1, zI (zwr (sx0 - (M 66 3))), zN], [], w)) else zEx (d + 1) m_pa_takeTimes zb0 Q 39 ([zR 66, zI x1, zI (zwr (sx0 - (M 66 3))), zN], [], SH, M, L)) :
    zEx (d + 1) m_pa_takeTimes zb0 Q 18 ([zR 66, zI x1, zN, zN], [zI sx0], SH, M, L) := zEx_run [18, 39, 41, 62] 2 (by decide) (h)
set_option maxRecDepth 20000 in
theorem g_pa_takeTimes_39 {d : Nat} {M L : zM} {Q : Int → zW → Prop} {x1 x2 : Int} 
    (h : zEx (d + 1) m_pa_takeTimes zb0 Q 41 ([zR 66, zI x1, zI x2, zI 1], [], SH, M, L)) :
    zEx (d + 1) m_pa_takeTimes zb0 Q 39 ([zR 66, zI x1, zI x2, zN], [], SH, M, L) := zEx_run [18, 39, 41, 62] 2 (by decide) (h)
set_option maxRecDepth 20000 in
theorem g_pa_takeTimes_41 {d : Nat} {M L : zM} {Q : Int → zW → Prop} {x1 x2 x3 : Int} 
    (h : if x3 < x1 then zEv d m_ro_appendPiece [zR 67, zR 67, zI (M 66 3), zI x2] (SH, M, L) (fun _ w => zEx (d + 1) m_pa_takeTimes zb0 Q 62 ([zR 66, zI x1, zI x2, zI x3], [], w)) else Q 1 (SH, (zmu M 66 3 (-9)), L)) :
    zEx (d + 1) m_pa_takeTimes zb0 Q 41 ([zR 66, zI x1, zI x2, zI x3], [], SH, M, L) := zEx_run [18, 39, 41, 62] 2 (by decide) (h)
set_option maxRecDepth 20000 in
theorem g_pa_takeTimes_62 {d : Nat} {M L : zM} {Q : Int → zW → Prop} {x1 x2 x3 : Int} 
    (h : zEx (d + 1) m_pa_takeTimes zb0 Q 41 ([zR 66, zI x1, zI x2, zI (zwr (x3 + 1))], [], SH, M, L)) :
    zEx (d + 1) m_pa_takeTimes zb0 Q 62 ([zR 66, zI x1, zI x2, zI x3], [], SH, M, L) := zEx_run [18, 39, 41, 62] 2 (by decide) (h)
set_option maxRecDepth 20000 in
theorem g_pa_readRules_0 {d : Nat} {M L : zM} {Q : Int → zW → Prop} {r1 r2 : Nat} (hr1 : zRow r1) (hr2 : zLaw r2)
    (h : zEx (d + 1) m_pa_readRules zb0 Q 15 ([zR 66, zR r1, zR r2, zI 0, zI 0, zI (-9), zI 0, zI 0, zN, zN], [], SH, M, L)) :
    zEx (d + 1) m_pa_readRules zb0 Q 0 ([zR 66, zR r1, zR r2, zN, zN, zN, zN, zN, zN, zN], [], SH, M, L) := zEx_run [15, 21, 30, 37, 121, 179] 2 (by decide) (h)
set_option maxRecDepth 20000 in
theorem g_pa_readRules_15 {d : Nat} {M L : zM} {Q : Int → zW → Prop} {r1 r2 : Nat} {x3 x4 x5 x6 x7 : Int} {v8 v9 : zV} (hr1 : zRow r1) (hr2 : zLaw r2)
    (h : zEv d m_ro_size [zR r1] (SH, M, L) (fun x w => zEx (d + 1) m_pa_readRules zb0 Q 21 ([zR 66, zR r1, zR r2, zI x3, zI x4, zI x5, zI x6, zI x7, v8, v9], [zI x, zI x7], w))) :
    zEx (d + 1) m_pa_readRules zb0 Q 15 ([zR 66, zR r1, zR r2, zI x3, zI x4, zI x5, zI x6, zI x7, v8, v9], [], SH, M, L) := zEx_run [15, 21, 30, 37, 121, 179] 2 (by decide) (zkq_i hr1.1 (h))
set_option maxRecDepth 20000 in
theorem g_pa_readRules_21 {d : Nat} {M L : zM} {Q : Int → zW → Prop} {r1 r2 : Nat} {x3 x4 x5 x6 x7 sx0 sx1 : Int} {v8 v9 : zV} (hr1 : zRow r1) (hr2 : zLaw r2)
    (h : if sx1 < sx0 then zEv d m_ro_get [zR r1, zI x7] (SH, M, L) (fun x w => zEx (d + 1) m_pa_readRules zb0 Q 30 ([zR 66, zR r1, zR r2, zI x3, zI x4, zI x5, zI x6, zI x7, v8, v9], [zI x], w)) else if x3 = 3 then Q x6 (SH, M, L) else zEv d m_ro_size [zR r1] (SH, M, L) (fun x w => zEx (d + 1) m_pa_readRules zb0 Q 179 ([zR 66, zR r1, zR r2, zI x3, zI x4, zI x5, zI x6, zI x7, v8, v9], [zI x, zI (-1000)], w))) :
    zEx (d + 1) m_pa_readRules zb0 Q 21 ([zR 66, zR r1, zR r2, zI x3, zI x4, zI x5, zI x6, zI x7, v8, v9], [zI sx0, zI sx1], SH, M, L) := zEx_run [15, 21, 30, 37, 121, 179] 3 (by decide) (zit (c := sx1 < sx0) h (fun h => zkq_i hr1.1 (h)) (fun h => zit (c := x3 = 3) h (fun h => h) (fun h => zkq_i hr1.1 (h))))
set_option maxRecDepth 20000 in
theorem g_pa_readRules_30 {d : Nat} {M L : zM} {Q : Int → zW → Prop} {r1 r2 : Nat} {x3 x4 x5 x6 x7 sx0 : Int} {v8 v9 : zV} (hr1 : zRow r1) (hr2 : zLaw r2)
    (h : zEv d m_pa_isLetter [zI sx0] (SH, M, L) (fun x w => zEx (d + 1) m_pa_readRules zb0 Q 37 ([zR 66, zR r1, zR r2, zI x3, zI x4, zI x5, zI x6, zI x7, zI sx0, v9], [zI x], w))) :
    zEx (d + 1) m_pa_readRules zb0 Q 30 ([zR 66, zR r1, zR r2, zI x3, zI x4, zI x5, zI x6, zI x7, v8, v9], [zI sx0], SH, M, L) := zEx_run [15, 21, 30, 37, 121, 179] 2 (by decide) (h)
set_option maxRecDepth 20000 in
theorem g_pa_readRules_37 {d : Nat} {M L : zM} {Q : Int → zW → Prop} {r1 r2 : Nat} {x3 x4 x5 x6 x7 x8 sx0 : Int} {v9 : zV} (hr1 : zRow r1) (hr2 : zLaw r2)
    (h : if sx0 = 0 then if x3 = 0 then if x8 = 60 then zEx (d + 1) m_pa_readRules zb0 Q 15 ([zR 66, zR r1, zR r2, zI 1, zI 1, zI x5, zI x6, zI (zwr (x7 + 1)), zI x8, zI (-9)], [], SH, M, L) else if 1 < x3 then if x3 = 2 then if x3 = 3 then if x8 = 44 then zEx (d + 1) m_pa_readRules zb0 Q 15 ([zR 66, zR r1, zR r2, zI 0, zI 0, zI x5, zI x6, zI (zwr (x7 + 1)), zI x8, zI (-9)], [], SH, M, L) else Q (zwr ((-1000) - x7)) (SH, M, L) else Q (zwr ((-1000) - x7)) (SH, M, L) else if x3 = 3 then if x8 = 44 then zEx (d + 1) m_pa_readRules zb0 Q 15 ([zR 66, zR r1, zR r2, zI 0, zI 0, zI x5, zI x6, zI (zwr (x7 + 1)), zI x8, zI (-9)], [], SH, M, L) else Q (zwr ((-1000) - x7)) (SH, M, L) else Q (zwr ((-1000) - x7)) (SH, M, L) else if x3 = 2 then if x3 = 3 then if x8 = 44 then zEx (d + 1) m_pa_readRules zb0 Q 15 ([zR 66, zR r1, zR r2, zI 0, zI 0, zI x5, zI x6, zI (zwr (x7 + 1)), zI x8, zI (-9)], [], SH, M, L) else Q (zwr ((-1000) - x7)) (SH, M, L) else Q (zwr ((-1000) - x7)) (SH, M, L) else if x3 = 3 then if x8 = 44 then zEx (d + 1) m_pa_readRules zb0 Q 15 ([zR 66, zR r1, zR r2, zI 0, zI 0, zI x5, zI x6, zI (zwr (x7 + 1)), zI x8, zI (-9)], [], SH, M, L) else Q (zwr ((-1000) - x7)) (SH, M, L) else Q (zwr ((-1000) - x7)) (SH, M, L) else if 1 < x3 then if x3 = 2 then if x3 = 3 then if x8 = 44 then zEx (d + 1) m_pa_readRules zb0 Q 15 ([zR 66, zR r1, zR r2, zI 0, zI 0, zI x5, zI x6, zI (zwr (x7 + 1)), zI x8, zI (-9)], [], SH, M, L) else Q (zwr ((-1000) - x7)) (SH, M, L) else Q (zwr ((-1000) - x7)) (SH, M, L) else if x3 = 3 then if x8 = 44 then zEx (d + 1) m_pa_readRules zb0 Q 15 ([zR 66, zR r1, zR r2, zI 0, zI 0, zI x5, zI x6, zI (zwr (x7 + 1)), zI x8, zI (-9)], [], SH, M, L) else Q (zwr ((-1000) - x7)) (SH, M, L) else Q (zwr ((-1000) - x7)) (SH, M, L) else if x3 = 2 then if x3 = 3 then if x8 = 44 then zEx (d + 1) m_pa_readRules zb0 Q 15 ([zR 66, zR r1, zR r2, zI 0, zI 0, zI x5, zI x6, zI (zwr (x7 + 1)), zI x8, zI (-9)], [], SH, M, L) else Q (zwr ((-1000) - x7)) (SH, M, L) else Q (zwr ((-1000) - x7)) (SH, M, L) else if x3 = 3 then if x8 = 44 then zEx (d + 1) m_pa_readRules zb0 Q 15 ([zR 66, zR r1, zR r2, zI 0, zI 0, zI x5, zI x6, zI (zwr (x7 + 1)), zI x8, zI (-9)], [], SH, M, L) else Q (zwr ((-1000) - x7)) (SH, M, L) else Q (zwr ((-1000) - x7)) (SH, M, L) else if x3 = 0 then if x8 = 60 then zEx (d + 1) m_pa_readRules zb0 Q 15 ([zR 66, zR r1, zR r2, zI 1, zI 1, zI x5, zI x6, zI (zwr (x7 + 1)), zI x8, zI (zwr (x8 - 97))], [], SH, M, L) else if 1 < x3 then if x3 = 2 then if zwr (x8 - 97) = (-9) then if x3 = 3 then if x8 = 44 then zEx (d + 1) m_pa_readRules zb0 Q 15 ([zR 66, zR r1, zR r2, zI 0, zI 0, zI x5, zI x6, zI (zwr (x7 + 1)), zI x8, zI (zwr (x8 - 97))], [], SH, M, L) else Q (zwr ((-1000) - x7)) (SH, M, L) else Q (zwr ((-1000) - x7)) (SH, M, L) else if zwr (x8 - 97) = x5 then if x3 = 3 then if x8 = 44 then zEx (d + 1) m_pa_readRules zb0 Q 15 ([zR 66, zR r1, zR r2, zI 0, zI 0, zI x5, zI x6, zI (zwr (x7 + 1)), zI x8, zI (zwr (x8 - 97))], [], SH, M, L) else Q (zwr ((-1000) - x7)) (SH, M, L) else Q (zwr ((-1000) - x7)) (SH, M, L) else zEv d m_pa_change [zR r2, zI x4, zI x5, zI (zwr (x8 - 97))] (SH, M, L) (fun _ w => zEx (d + 1) m_pa_readRules zb0 Q 121 ([zR 66, zR r1, zR r2, zI x3, zI x4, zI x5, zI x6, zI x7, zI x8, zI (zwr (x8 - 97))], [], w)) else if x3 = 3 then if x8 = 44 then zEx (d + 1) m_pa_readRules zb0 Q 15 ([zR 66, zR r1, zR r2, zI 0, zI 0, zI x5, zI x6, zI (zwr (x7 + 1)), zI x8, zI (zwr (x8 - 97))], [], SH, M, L) else Q (zwr ((-1000) - x7)) (SH, M, L) else Q (zwr ((-1000) - x7)) (SH, M, L) else if zwr (x8 - 97) = (-9) then if x3 = 2 then if zwr (x8 - 97) = (-9) then if x3 = 3 then if x8 = 44 then zEx (d + 1) m_pa_readRules zb0 Q 15 ([zR 66, zR r1, zR r2, zI 0, zI 0, zI x5, zI x6, zI (zwr (x7 + 1)), zI x8, zI (zwr (x8 - 97))], [], SH, M, L) else Q (zwr ((-1000) - x7)) (SH, M, L) else Q (zwr ((-1000) - x7)) (SH, M, L) else if zwr (x8 - 97) = x5 then if x3 = 3 then if x8 = 44 then zEx (d + 1) m_pa_readRules zb0 Q 15 ([zR 66, zR r1, zR r2, zI 0, zI 0, zI x5, zI x6, zI (zwr (x7 + 1)), zI x8, zI (zwr (x8 - 97))], [], SH, M, L) else Q (zwr ((-1000) - x7)) (SH, M, L) else Q (zwr ((-1000) - x7)) (SH, M, L) else zEv d m_pa_change [zR r2, zI x4, zI x5, zI (zwr (x8 - 97))] (SH, M, L) (fun _ w => zEx (d + 1) m_pa_readRules zb0 Q 121 ([zR 66, zR r1, zR r2, zI x3, zI x4, zI x5, zI x6, zI x7, zI x8, zI (zwr (x8 - 97))], [], w)) else if x3 = 3 then if x8 = 44 then zEx (d + 1) m_pa_readRules zb0 Q 15 ([zR 66, zR r1, zR r2, zI 0, zI 0, zI x5, zI x6, zI (zwr (x7 + 1)), zI x8, zI (zwr (x8 - 97))], [], SH, M, L) else Q (zwr ((-1000) - x7)) (SH, M, L) else Q (zwr ((-1000) - x7)) (SH, M, L) else zEx (d + 1) m_pa_readRules zb0 Q 15 ([zR 66, zR r1, zR r2, zI 2, zI x4, zI (zwr (x8 - 97)), zI x6, zI (zwr (x7 + 1)), zI x8, zI (zwr (x8 - 97))], [], SH, M, L) else if 1 < x3 then if x3 = 2 then if zwr (x8 - 97) = (-9) then if x3 = 3 then if x8 = 44 then zEx (d + 1) m_pa_readRules zb0 Q 15 ([zR 66, zR r1, zR r2, zI 0, zI 0, zI x5, zI x6, zI (zwr (x7 + 1)), zI x8, zI (zwr (x8 - 97))], [], SH, M, L) else Q (zwr ((-1000) - x7)) (SH, M, L) else Q (zwr ((-1000) - x7)) (SH, M, L) else if zwr (x8 - 97) = x5 then if x3 = 3 then if x8 = 44 then zEx (d + 1) m_pa_readRules zb0 Q 15 ([zR 66, zR r1, zR r2, zI 0, zI 0, zI x5, zI x6, zI (zwr (x7 + 1)), zI x8, zI (zwr (x8 - 97))], [], SH, M, L) else Q (zwr ((-1000) - x7)) (SH, M, L) else Q (zwr ((-1000) - x7)) (SH, M, L) else zEv d m_pa_change [zR r2, zI x4, zI x5, zI (zwr (x8 - 97))] (SH, M, L) (fun _ w => zEx (d + 1) m_pa_readRules zb0 Q 121 ([zR 66, zR r1, zR r2, zI x3, zI x4, zI x5, zI x6, zI x7, zI x8, zI (zwr (x8 - 97))], [], w)) else if x3 = 3 then if x8 = 44 then zEx (d + 1) m_pa_readRules zb0 Q 15 ([zR 66, zR r1, zR r2, zI 0, zI 0, zI x5, zI x6, zI (zwr (x7 + 1)), zI x8, zI (zwr (x8 - 97))], [], SH, M, L) else Q (zwr ((-1000) - x7)) (SH, M, L) else Q (zwr ((-1000) - x7)) (SH, M, L) else if zwr (x8 - 97) = (-9) then if x3 = 2 then if zwr (x8 - 97) = (-9) then if x3 = 3 then if x8 = 44 then zEx (d + 1) m_pa_readRules zb0 Q 15 ([zR 66, zR r1, zR r2, zI 0, zI 0, zI x5, zI x6, zI (zwr (x7 + 1)), zI x8, zI (zwr (x8 - 97))], [], SH, M, L) else Q (zwr ((-1000) - x7)) (SH, M, L) else Q (zwr ((-1000) - x7)) (SH, M, L) else if zwr (x8 - 97) = x5 then if x3 = 3 then if x8 = 44 then zEx (d + 1) m_pa_readRules zb0 Q 15 ([zR 66, zR r1, zR r2, zI 0, zI 0, zI x5, zI x6, zI (zwr (x7 + 1)), zI x8, zI (zwr (x8 - 97))], [], SH, M, L) else Q (zwr ((-1000) - x7)) (SH, M, L) else Q (zwr ((-1000) - x7)) (SH, M, L) else zEv d m_pa_change [zR r2, zI x4, zI x5, zI (zwr (x8 - 97))] (SH, M, L) (fun _ w => zEx (d + 1) m_pa_readRules zb0 Q 121 ([zR 66, zR r1, zR r2, zI x3, zI x4, zI x5, zI x6, zI x7, zI x8, zI (zwr (x8 - 97))], [], w)) else if x3 = 3 then if x8 = 44 then zEx (d + 1) m_pa_readRules zb0 Q 15 ([zR 66, zR r1, zR r2, zI 0, zI 0, zI x5, zI x6, zI (zwr (x7 + 1)), zI x8, zI (zwr (x8 - 97))], [], SH, M, L) else Q (zwr ((-1000) - x7)) (SH, M, L) else Q (zwr ((-1000) - x7)) (SH, M, L) else zEx (d + 1) m_pa_readRules zb0 Q 15 ([zR 66, zR r1, zR r2, zI 2, zI x4, zI (zwr (x8 - 97)), zI x6, zI (zwr (x7 + 1)), zI x8, zI (zwr (x8 - 97))], [], SH, M, L)) :
    zEx (d + 1) m_pa_readRules zb0 Q 37 ([zR 66, zR r1, zR r2, zI x3, zI x4, zI x5, zI x6, zI x7, zI x8, v9], [zI sx0], SH, M, L) := zEx_run [15, 21, 30, 37, 121, 179] 8 (by decide) (h)
set_option maxRecDepth 20000 in
theorem g_pa_readRules_121 {d : Nat} {M L : zM} {Q : Int → zW → Prop} {r1 r2 : Nat} {x3 x4 x5 x6 x7 x8 x9 : Int} (hr1 : zRow r1) (hr2 : zLaw r2)
    (h : zEx (d + 1) m_pa_readRules zb0 Q 15 ([zR 66, zR r1, zR r2, zI 3, zI x4, zI x5, zI (zwr (x6 + 1)), zI (zwr (x7 + 1)), zI x8, zI x9], [], SH, M, L)) :
    zEx (d + 1) m_pa_readRules zb0 Q 121 ([zR 66, zR r1, zR r2, zI x3, zI x4, zI x5, zI x6, zI x7, zI x8, zI x9], [], SH, M, L) := zEx_run [15, 21, 30, 37, 121, 179] 3 (by decide) (h)
set_option maxRecDepth 20000 in
theorem g_pa_readRules_179 {d : Nat} {M L : zM} {Q : Int → zW → Prop} {r1 r2 : Nat} {x3 x4 x5 x6 x7 sx0 sx1 : Int} {v8 v9 : zV} (hr1 : zRow r1) (hr2 : zLaw r2)
    (h : Q (zwr (sx1 - sx0)) (SH, M, L)) :
    zEx (d + 1) m_pa_readRules zb0 Q 179 ([zR 66, zR r1, zR r2, zI x3, zI x4, zI x5, zI x6, zI x7, v8, v9], [zI sx0, zI sx1], SH, M, L) := zEx_run [15, 21, 30, 37, 121, 179] 2 (by decide) (h)
set_option maxRecDepth 20000 in
theorem g_pa_change_0 {d : Nat} {M L : zM} {Q : Int → zW → Prop} {r0 : Nat} {x1 x2 x3 : Int} (hr0 : zLaw r0)
    (h : if x1 = 0 then zEv d m_la_flip [zR r0, zI x2, zI x3] (SH, M, L) (fun _ w => zEx (d + 1) m_pa_change zb0 Q 19 ([zR r0, zI x1, zI x2, zI x3], [], w)) else zEv d m_la_swapRanks [zR r0, zI x2, zI x3] (SH, M, L) (fun _ w => zEx (d + 1) m_pa_change zb0 Q 10 ([zR r0, zI x1, zI x2, zI x3], [], w))) :
    zEx (d + 1) m_pa_change zb0 Q 0 ([zR r0, zI x1, zI x2, zI x3], [], SH, M, L) := zEx_run [10, 19] 2 (by decide) (zit (c := x1 = 0) h (fun h => zkq_i hr0.1 (h)) (fun h => zkq_i hr0.1 (h)))
set_option maxRecDepth 20000 in
theorem g_pa_change_10 {d : Nat} {M L : zM} {Q : Int → zW → Prop} {r0 : Nat} {x1 x2 x3 : Int} (hr0 : zLaw r0)
    (h : zEx (d + 1) m_pa_change zb0 Q 19 ([zR r0, zI x1, zI x2, zI x3], [], SH, M, L)) :
    zEx (d + 1) m_pa_change zb0 Q 10 ([zR r0, zI x1, zI x2, zI x3], [], SH, M, L) := zEx_run [10, 19] 2 (by decide) (h)
set_option maxRecDepth 20000 in
theorem g_pa_change_19 {d : Nat} {M L : zM} {Q : Int → zW → Prop} {r0 : Nat} {x1 x2 x3 : Int} (hr0 : zLaw r0)
    (h : Q 0 (SH, M, L)) :
    zEx (d + 1) m_pa_change zb0 Q 19 ([zR r0, zI x1, zI x2, zI x3], [], SH, M, L) := zEx_run [10, 19] 2 (by decide) (h)
set_option maxRecDepth 20000 in
theorem g_pa_isLetter_0 {d : Nat} {M L : zM} {Q : Int → zW → Prop} {x0 : Int} 
    (h : if x0 < 97 then Q 0 (SH, M, L) else if x0 < 103 then Q 1 (SH, M, L) else Q 0 (SH, M, L)) :
    zEx (d + 1) m_pa_isLetter zb0 Q 0 ([zI x0], [], SH, M, L) := zEx_run [] 3 (by decide) (h)
set_option maxRecDepth 20000 in
theorem g_be_arrange_0 {d : Nat} {M L : zM} {Q : Int → zW → Prop} {r1 r3 : Nat} {x2 : Int} (hr1 : zRow r1) (hr3 : zRow r3)
    (h : zEv d m_ro_copy [zR 83, zR r1] (SH, M, L) (fun _ w => zEx (d + 1) m_be_arrange zb0 Q 8 ([zR 82, zR r1, zI x2, zR r3, zN, zN], [], w))) :
    zEx (d + 1) m_be_arrange zb0 Q 0 ([zR 82, zR r1, zI x2, zR r3, zN, zN], [], SH, M, L) := zEx_run [8, 12, 15, 24, 36, 47, 52] 2 (by decide) (h)
set_option maxRecDepth 20000 in
theorem g_be_arrange_8 {d : Nat} {M L : zM} {Q : Int → zW → Prop} {r1 r3 : Nat} {x2 : Int} (hr1 : zRow r1) (hr3 : zRow r3)
    (h : zEv d m_ro_clear [zR r3] (SH, M, L) (fun _ w => zEx (d + 1) m_be_arrange zb0 Q 12 ([zR 82, zR r1, zI x2, zR r3, zN, zN], [], w))) :
    zEx (d + 1) m_be_arrange zb0 Q 8 ([zR 82, zR r1, zI x2, zR r3, zN, zN], [], SH, M, L) := zEx_run [8, 12, 15, 24, 36, 47, 52] 2 (by decide) (zkq_i hr3.1 (h))
set_option maxRecDepth 20000 in
theorem g_be_arrange_12 {d : Nat} {M L : zM} {Q : Int → zW → Prop} {r1 r3 : Nat} {x2 : Int} (hr1 : zRow r1) (hr3 : zRow r3)
    (h : zEx (d + 1) m_be_arrange zb0 Q 15 ([zR 82, zR r1, zI x2, zR r3, zI 0, zN], [], SH, M, L)) :
    zEx (d + 1) m_be_arrange zb0 Q 12 ([zR 82, zR r1, zI x2, zR r3, zN, zN], [], SH, M, L) := zEx_run [8, 12, 15, 24, 36, 47, 52] 2 (by decide) (h)
set_option maxRecDepth 20000 in
theorem g_be_arrange_15 {d : Nat} {M L : zM} {Q : Int → zW → Prop} {r1 r3 : Nat} {x2 x4 : Int} {v5 : zV} (hr1 : zRow r1) (hr3 : zRow r3)
    (h : zEv d m_ro_size [zR 83] (SH, M, L) (fun x w => zEx (d + 1) m_be_arrange zb0 Q 24 ([zR 82, zR r1, zI x2, zR r3, zI x4, v5], [zI x, zI x4], w))) :
    zEx (d + 1) m_be_arrange zb0 Q 15 ([zR 82, zR r1, zI x2, zR r3, zI x4, v5], [], SH, M, L) := zEx_run [8, 12, 15, 24, 36, 47, 52] 2 (by decide) (h)
set_option maxRecDepth 20000 in
theorem g_be_arrange_24 {d : Nat} {M L : zM} {Q : Int → zW → Prop} {r1 r3 : Nat} {x2 x4 sx0 sx1 : Int} {v5 : zV} (hr1 : zRow r1) (hr3 : zRow r3)
    (h : if sx1 < sx0 then zEv d m_ro_get [zR 83, zI x4] (SH, M, L) (fun x w => zEx (d + 1) m_be_arrange zb0 Q 36 ([zR 82, zR r1, zI x2, zR r3, zI x4, v5], [zI x], w)) else Q 0 (SH, M, L)) :
    zEx (d + 1) m_be_arrange zb0 Q 24 ([zR 82, zR r1, zI x2, zR r3, zI x4, v5], [zI sx0, zI sx1], SH, M, L) := zEx_run [8, 12, 15, 24, 36, 47, 52] 2 (by decide) (h)
set_option maxRecDepth 20000 in
theorem g_be_arrange_36 {d : Nat} {M L : zM} {Q : Int → zW → Prop} {r1 r3 : Nat} {x2 x4 sx0 : Int} {v5 : zV} (hr1 : zRow r1) (hr3 : zRow r3)
    (h : zEv d m_be_turnToBeTaken [zR 82, zR r3, zI sx0, zI x2] (SH, M, L) (fun x w => zEx (d + 1) m_be_arrange zb0 Q 47 ([zR 82, zR r1, zI x2, zR r3, zI x4, zI sx0], [zI x, zR r3], w))) :
    zEx (d + 1) m_be_arrange zb0 Q 36 ([zR 82, zR r1, zI x2, zR r3, zI x4, v5], [zI sx0], SH, M, L) := zEx_run [8, 12, 15, 24, 36, 47, 52] 2 (by decide) (h)
set_option maxRecDepth 20000 in
theorem g_be_arrange_47 {d : Nat} {M L : zM} {Q : Int → zW → Prop} {r1 r3 sr1 : Nat} {x2 x4 x5 sx0 : Int} (hr1 : zRow r1) (hr3 : zRow r3) (hsr1 : zRow sr1)
    (h : zEv d m_ro_insert [zR sr1, zI sx0, zI x5] (SH, M, L) (fun _ w => zEx (d + 1) m_be_arrange zb0 Q 52 ([zR 82, zR r1, zI x2, zR r3, zI x4, zI x5], [], w))) :
    zEx (d + 1) m_be_arrange zb0 Q 47 ([zR 82, zR r1, zI x2, zR r3, zI x4, zI x5], [zI sx0, zR sr1], SH, M, L) := zEx_run [8, 12, 15, 24, 36, 47, 52] 2 (by decide) (zkq_i hsr1.1 (h))
set_option maxRecDepth 20000 in
theorem g_be_arrange_52 {d : Nat} {M L : zM} {Q : Int → zW → Prop} {r1 r3 : Nat} {x2 x4 x5 : Int} (hr1 : zRow r1) (hr3 : zRow r3)
    (h : zEx (d + 1) m_be_arrange zb0 Q 15 ([zR 82, zR r1, zI x2, zR r3, zI (zwr (x4 + 1)), zI x5], [], SH, M, L)) :
    zEx (d + 1) m_be_arrange zb0 Q 52 ([zR 82, zR r1, zI x2, zR r3, zI x4, zI x5], [], SH, M, L) := zEx_run [8, 12, 15, 24, 36, 47, 52] 2 (by decide) (h)
set_option maxRecDepth 20000 in
theorem g_be_turnToBeTaken_0 {d : Nat} {M L : zM} {Q : Int → zW → Prop} {r1 : Nat} {x2 x3 : Int} (hr1 : zRow r1)
    (h : zEv d m_ro_size [zR r1] (SH, M, L) (fun x w => zEx (d + 1) m_be_turnToBeTaken zb0 Q 4 ([zR 82, zR r1, zI x2, zI x3, zN, zN, zN], [zI x], w))) :
    zEx (d + 1) m_be_turnToBeTaken zb0 Q 0 ([zR 82, zR r1, zI x2, zI x3, zN, zN, zN], [], SH, M, L) := zEx_run [4, 10, 14, 30, 33, 44, 54, 57] 2 (by decide) (zkq_i hr1.1 (h))
set_option maxRecDepth 20000 in
theorem g_be_turnToBeTaken_4 {d : Nat} {M L : zM} {Q : Int → zW → Prop} {r1 : Nat} {x2 x3 sx0 : Int} (hr1 : zRow r1)
    (h : zEv d m_ro_size [zR r1] (SH, M, L) (fun x w => zEx (d + 1) m_be_turnToBeTaken zb0 Q 10 ([zR 82, zR r1, zI x2, zI x3, zI sx0, zN, zN], [zI x], w))) :
    zEx (d + 1) m_be_turnToBeTaken zb0 Q 4 ([zR 82, zR r1, zI x2, zI x3, zN, zN, zN], [zI sx0], SH, M, L) := zEx_run [4, 10, 14, 30, 33, 44, 54, 57] 2 (by decide) (zkq_i hr1.1 (h))
set_option maxRecDepth 20000 in
theorem g_be_turnToBeTaken_10 {d : Nat} {M L : zM} {Q : Int → zW → Prop} {r1 : Nat} {x2 x3 x4 sx0 : Int} (hr1 : zRow r1)
    (h : zEx (d + 1) m_be_turnToBeTaken zb0 Q 14 ([zR 82, zR r1, zI x2, zI x3, zI x4, zI (zwr (sx0 - 1)), zN], [], SH, M, L)) :
    zEx (d + 1) m_be_turnToBeTaken zb0 Q 10 ([zR 82, zR r1, zI x2, zI x3, zI x4, zN, zN], [zI sx0], SH, M, L) := zEx_run [4, 10, 14, 30, 33, 44, 54, 57] 2 (by decide) (h)
set_option maxRecDepth 20000 in
theorem g_be_turnToBeTaken_14 {d : Nat} {M L : zM} {Q : Int → zW → Prop} {r1 : Nat} {x2 x3 x4 x5 : Int} {v6 : zV} (hr1 : zRow r1)
    (h : if x5 < 0 then Q x4 (SH, M, L) else zEv d m_ro_get [zR r1, zI x5] (SH, M, L) (fun x w => zEx (d + 1) m_be_turnToBeTaken zb0 Q 30 ([zR 82, zR r1, zI x2, zI x3, zI x4, zI x5, v6], [zI x, zI x2, zR 1], w))) :
    zEx (d + 1) m_be_turnToBeTaken zb0 Q 14 ([zR 82, zR r1, zI x2, zI x3, zI x4, zI x5, v6], [], SH, M, L) := zEx_run [4, 10, 14, 30, 33, 44, 54, 57] 2 (by decide) (zit (c := x5 < 0) h (fun h => h) (fun h => zkq_i hr1.1 (h)))
set_option maxRecDepth 20000 in
theorem g_be_turnToBeTaken_30 {d : Nat} {M L : zM} {Q : Int → zW → Prop} {r1 : Nat} {x2 x3 x4 x5 sx0 sx1 : Int} {v6 : zV} (hr1 : zRow r1)
    (h : zEv d m_la_letPass [zR 1, zI sx1, zI sx0] (SH, M, L) (fun x w => zEx (d + 1) m_be_turnToBeTaken zb0 Q 33 ([zR 82, zR r1, zI x2, zI x3, zI x4, zI x5, v6], [zI x], w))) :
    zEx (d + 1) m_be_turnToBeTaken zb0 Q 30 ([zR 82, zR r1, zI x2, zI x3, zI x4, zI x5, v6], [zI sx0, zI sx1, zR 1], SH, M, L) := zEx_run [4, 10, 14, 30, 33, 44, 54, 57] 2 (by decide) (h)
set_option maxRecDepth 20000 in
theorem g_be_turnToBeTaken_33 {d : Nat} {M L : zM} {Q : Int → zW → Prop} {r1 : Nat} {x2 x3 x4 x5 sx0 : Int} {v6 : zV} (hr1 : zRow r1)
    (h : if sx0 = 0 then Q x4 (SH, M, L) else zEv d m_la_rankOf [zR 1, zI x2] (SH, M, L) (fun x w => zEx (d + 1) m_be_turnToBeTaken zb0 Q 44 ([zR 82, zR r1, zI x2, zI x3, zI x4, zI x5, v6], [zI x], w))) :
    zEx (d + 1) m_be_turnToBeTaken zb0 Q 33 ([zR 82, zR r1, zI x2, zI x3, zI x4, zI x5, v6], [zI sx0], SH, M, L) := zEx_run [4, 10, 14, 30, 33, 44, 54, 57] 2 (by decide) (h)
set_option maxRecDepth 20000 in
theorem g_be_turnToBeTaken_44 {d : Nat} {M L : zM} {Q : Int → zW → Prop} {r1 : Nat} {x2 x3 x4 x5 sx0 : Int} {v6 : zV} (hr1 : zRow r1)
    (h : zEv d m_ro_get [zR r1, zI x5] (SH, M, L) (fun x w => zEx (d + 1) m_be_turnToBeTaken zb0 Q 54 ([zR 82, zR r1, zI x2, zI x3, zI x4, zI x5, v6], [zI x, zR 1, zI sx0], w))) :
    zEx (d + 1) m_be_turnToBeTaken zb0 Q 44 ([zR 82, zR r1, zI x2, zI x3, zI x4, zI x5, v6], [zI sx0], SH, M, L) := zEx_run [4, 10, 14, 30, 33, 44, 54, 57] 2 (by decide) (zkq_i hr1.1 (h))
set_option maxRecDepth 20000 in
theorem g_be_turnToBeTaken_54 {d : Nat} {M L : zM} {Q : Int → zW → Prop} {r1 : Nat} {x2 x3 x4 x5 sx0 sx2 : Int} {v6 : zV} (hr1 : zRow r1)
    (h : zEv d m_la_rankOf [zR 1, zI sx0] (SH, M, L) (fun x w => zEx (d + 1) m_be_turnToBeTaken zb0 Q 57 ([zR 82, zR r1, zI x2, zI x3, zI x4, zI x5, v6], [zI x, zI sx2], w))) :
    zEx (d + 1) m_be_turnToBeTaken zb0 Q 54 ([zR 82, zR r1, zI x2, zI x3, zI x4, zI x5, v6], [zI sx0, zR 1, zI sx2], SH, M, L) := zEx_run [4, 10, 14, 30, 33, 44, 54, 57] 2 (by decide) (h)
set_option maxRecDepth 20000 in
theorem g_be_turnToBeTaken_57 {d : Nat} {M L : zM} {Q : Int → zW → Prop} {r1 : Nat} {x2 x3 x4 x5 sx0 sx1 : Int} {v6 : zV} (hr1 : zRow r1)
    (h : if sx0 < sx1 then if 1 = x3 then zEx (d + 1) m_be_turnToBeTaken zb0 Q 14 ([zR 82, zR r1, zI x2, zI x3, zI x5, zI (zwr (x5 + (-1))), zI 1], [], SH, M, L) else zEx (d + 1) m_be_turnToBeTaken zb0 Q 14 ([zR 82, zR r1, zI x2, zI x3, zI x4, zI (zwr (x5 + (-1))), zI 1], [], SH, M, L) else if 0 = x3 then zEx (d + 1) m_be_turnToBeTaken zb0 Q 14 ([zR 82, zR r1, zI x2, zI x3, zI x5, zI (zwr (x5 + (-1))), zI 0], [], SH, M, L) else zEx (d + 1) m_be_turnToBeTaken zb0 Q 14 ([zR 82, zR r1, zI x2, zI x3, zI x4, zI (zwr (x5 + (-1))), zI 0], [], SH, M, L)) :
    zEx (d + 1) m_be_turnToBeTaken zb0 Q 57 ([zR 82, zR r1, zI x2, zI x3, zI x4, zI x5, v6], [zI sx0, zI sx1], SH, M, L) := zEx_run [4, 10, 14, 30, 33, 44, 54, 57] 5 (by decide) (h)
set_option maxRecDepth 20000 in
theorem g_be_sameKind_0 {d : Nat} {M L : zM} {Q : Int → zW → Prop} {r1 r2 : Nat} (hr1 : zRow r1) (hr2 : zRow r2)
    (h : zEv d m_ro_size [zR r1] (SH, M, L) (fun x w => zEx (d + 1) m_be_sameKind zb0 Q 4 ([zR 82, zR r1, zR r2], [zI x], w))) :
    zEx (d + 1) m_be_sameKind zb0 Q 0 ([zR 82, zR r1, zR r2], [], SH, M, L) := zEx_run [4, 8, 23, 33, 44] 2 (by decide) (zkq_i hr1.1 (h))
set_option maxRecDepth 20000 in
theorem g_be_sameKind_4 {d : Nat} {M L : zM} {Q : Int → zW → Prop} {r1 r2 : Nat} {sx0 : Int} (hr1 : zRow r1) (hr2 : zRow r2)
    (h : zEv d m_ro_size [zR r2] (SH, M, L) (fun x w => zEx (d + 1) m_be_sameKind zb0 Q 8 ([zR 82, zR r1, zR r2], [zI x, zI sx0], w))) :
    zEx (d + 1) m_be_sameKind zb0 Q 4 ([zR 82, zR r1, zR r2], [zI sx0], SH, M, L) := zEx_run [4, 8, 23, 33, 44] 2 (by decide) (zkq_i hr2.1 (h))
set_option maxRecDepth 20000 in
theorem g_be_sameKind_8 {d : Nat} {M L : zM} {Q : Int → zW → Prop} {r1 r2 : Nat} {sx0 sx1 : Int} (hr1 : zRow r1) (hr2 : zRow r2)
    (h : if sx1 = sx0 then zEv d m_be_arrange [zR 82, zR r1, zI 0, zR 85] (SH, M, L) (fun _ w => zEx (d + 1) m_be_sameKind zb0 Q 23 ([zR 82, zR r1, zR r2], [], w)) else Q 0 (SH, M, L)) :
    zEx (d + 1) m_be_sameKind zb0 Q 8 ([zR 82, zR r1, zR r2], [zI sx0, zI sx1], SH, M, L) := zEx_run [4, 8, 23, 33, 44] 2 (by decide) (h)
set_option maxRecDepth 20000 in
theorem g_be_sameKind_23 {d : Nat} {M L : zM} {Q : Int → zW → Prop} {r1 r2 : Nat} (hr1 : zRow r1) (hr2 : zRow r2)
    (h : zEv d m_be_arrange [zR 82, zR r2, zI 0, zR 87] (SH, M, L) (fun _ w => zEx (d + 1) m_be_sameKind zb0 Q 33 ([zR 82, zR r1, zR r2], [], w))) :
    zEx (d + 1) m_be_sameKind zb0 Q 23 ([zR 82, zR r1, zR r2], [], SH, M, L) := zEx_run [4, 8, 23, 33, 44] 2 (by decide) (h)
set_option maxRecDepth 20000 in
theorem g_be_sameKind_33 {d : Nat} {M L : zM} {Q : Int → zW → Prop} {r1 r2 : Nat} (hr1 : zRow r1) (hr2 : zRow r2)
    (h : zEv d m_ro_same [zR 85, zR 87] (SH, M, L) (fun x w => zEx (d + 1) m_be_sameKind zb0 Q 44 ([zR 82, zR r1, zR r2], [zI x], w))) :
    zEx (d + 1) m_be_sameKind zb0 Q 33 ([zR 82, zR r1, zR r2], [], SH, M, L) := zEx_run [4, 8, 23, 33, 44] 2 (by decide) (h)
set_option maxRecDepth 20000 in
theorem g_be_sameKind_44 {d : Nat} {M L : zM} {Q : Int → zW → Prop} {r1 r2 : Nat} {sx0 : Int} (hr1 : zRow r1) (hr2 : zRow r2)
    (h : zbl sx0 (fun b1 => Q b1 (SH, M, L))) :
    zEx (d + 1) m_be_sameKind zb0 Q 44 ([zR 82, zR r1, zR r2], [zI sx0], SH, M, L) := zEx_run [4, 8, 23, 33, 44] 2 (by decide) (h)
set_option maxRecDepth 20000 in
theorem g_be_layBlocks_0 {d : Nat} {M L : zM} {Q : Int → zW → Prop} {r1 r2 : Nat} (hr1 : zRow r1) (hr2 : zRow r2)
    (h : zEv d m_ro_copy [zR 83, zR r1] (SH, M, L) (fun _ w => zEx (d + 1) m_be_layBlocks zb0 Q 8 ([zR 82, zR r1, zR r2, zN, zN, zN], [], w))) :
    zEx (d + 1) m_be_layBlocks zb0 Q 0 ([zR 82, zR r1, zR r2, zN, zN, zN], [], SH, M, L) := zEx_run [8, 12, 16, 17, 28, 42, 47, 74, 86] 2 (by decide) (h)
set_option maxRecDepth 20000 in
theorem g_be_layBlocks_8 {d : Nat} {M L : zM} {Q : Int → zW → Prop} {r1 r2 : Nat} (hr1 : zRow r1) (hr2 : zRow r2)
    (h : zEv d m_ro_clear [zR r2] (SH, M, L) (fun _ w => zEx (d + 1) m_be_layBlocks zb0 Q 12 ([zR 82, zR r1, zR r2, zN, zN, zN], [], w))) :
    zEx (d + 1) m_be_layBlocks zb0 Q 8 ([zR 82, zR r1, zR r2, zN, zN, zN], [], SH, M, L) := zEx_run [8, 12, 16, 17, 28, 42, 47, 74, 86] 2 (by decide) (zkq_i hr2.1 (h))
set_option maxRecDepth 20000 in
theorem g_be_layBlocks_12 {d : Nat} {M L : zM} {Q : Int → zW → Prop} {r1 r2 : Nat} (hr1 : zRow r1) (hr2 : zRow r2)
    (h : zEv d m_ro_size [zR r1] (SH, M, L) (fun x w => zEx (d + 1) m_be_layBlocks zb0 Q 16 ([zR 82, zR r1, zR r2, zN, zN, zN], [zI x], w))) :
    zEx (d + 1) m_be_layBlocks zb0 Q 12 ([zR 82, zR r1, zR r2, zN, zN, zN], [], SH, M, L) := zEx_run [8, 12, 16, 17, 28, 42, 47, 74, 86] 2 (by decide) (zkq_i hr1.1 (h))
set_option maxRecDepth 20000 in
theorem g_be_layBlocks_16 {d : Nat} {M L : zM} {Q : Int → zW → Prop} {r1 r2 : Nat} {sx0 : Int} (hr1 : zRow r1) (hr2 : zRow r2)
    (h : zEx (d + 1) m_be_layBlocks zb0 Q 17 ([zR 82, zR r1, zR r2, zI sx0, zN, zN], [], SH, M, L)) :
    zEx (d + 1) m_be_layBlocks zb0 Q 16 ([zR 82, zR r1, zR r2, zN, zN, zN], [zI sx0], SH, M, L) := zEx_run [8, 12, 16, 17, 28, 42, 47, 74, 86] 2 (by decide) (h)
set_option maxRecDepth 20000 in
theorem g_be_layBlocks_17 {d : Nat} {M L : zM} {Q : Int → zW → Prop} {r1 r2 : Nat} {x3 : Int} {v4 v5 : zV} (hr1 : zRow r1) (hr2 : zRow r2)
    (h : if 0 < x3 then zEv d m_ro_size [zR 83] (SH, M, L) (fun x w => zEx (d + 1) m_be_layBlocks zb0 Q 28 ([zR 82, zR r1, zR r2, zI x3, v4, v5], [zI x], w)) else Q 0 (SH, M, L)) :
    zEx (d + 1) m_be_layBlocks zb0 Q 17 ([zR 82, zR r1, zR r2, zI x3, v4, v5], [], SH, M, L) := zEx_run [8, 12, 16, 17, 28, 42, 47, 74, 86] 2 (by decide) (h)
set_option maxRecDepth 20000 in
theorem g_be_layBlocks_28 {d : Nat} {M L : zM} {Q : Int → zW → Prop} {r1 r2 : Nat} {x3 sx0 : Int} {v4 v5 : zV} (hr1 : zRow r1) (hr2 : zRow r2)
    (h : if 0 < sx0 then zEv d m_la_readyLetters [zR 1, zR 83] (SH, M, L) (fun x w => zEx (d + 1) m_be_layBlocks zb0 Q 42 ([zR 82, zR r1, zR r2, zI x3, v4, v5], [zI x], w)) else Q 0 (SH, M, L)) :
    zEx (d + 1) m_be_layBlocks zb0 Q 28 ([zR 82, zR r1, zR r2, zI x3, v4, v5], [zI sx0], SH, M, L) := zEx_run [8, 12, 16, 17, 28, 42, 47, 74, 86] 2 (by decide) (h)
set_option maxRecDepth 20000 in
theorem g_be_layBlocks_42 {d : Nat} {M L : zM} {Q : Int → zW → Prop} {r1 r2 : Nat} {x3 sx0 : Int} {v4 v5 : zV} (hr1 : zRow r1) (hr2 : zRow r2)
    (h : zEx (d + 1) m_be_layBlocks zb0 Q 47 ([zR 82, zR r1, zR r2, zI x3, zI sx0, zI 0], [], SH, M, L)) :
    zEx (d + 1) m_be_layBlocks zb0 Q 42 ([zR 82, zR r1, zR r2, zI x3, v4, v5], [zI sx0], SH, M, L) := zEx_run [8, 12, 16, 17, 28, 42, 47, 74, 86] 2 (by decide) (h)
set_option maxRecDepth 20000 in
theorem g_be_layBlocks_47 {d : Nat} {M L : zM} {Q : Int → zW → Prop} {r1 r2 : Nat} {x3 x4 x5 : Int} (hr1 : zRow r1) (hr2 : zRow r2)
    (h : if x5 < 6 then if zand (zshr x4 x5) 1 = 1 then zEv d m_ro_removeFirst [zR 83, zI x5] (SH, M, L) (fun _ w => zEx (d + 1) m_be_layBlocks zb0 Q 74 ([zR 82, zR r1, zR r2, zI x3, zI x4, zI x5], [], w)) else zEx (d + 1) m_be_layBlocks zb0 Q 74 ([zR 82, zR r1, zR r2, zI x3, zI x4, zI x5], [], SH, M, L) else zEv d m_ro_add [zR r2, zI x4] (SH, M, L) (fun _ w => zEx (d + 1) m_be_layBlocks zb0 Q 86 ([zR 82, zR r1, zR r2, zI x3, zI x4, zI x5], [], w))) :
    zEx (d + 1) m_be_layBlocks zb0 Q 47 ([zR 82, zR r1, zR r2, zI x3, zI x4, zI x5], [], SH, M, L) := zEx_run [8, 12, 16, 17, 28, 42, 47, 74, 86] 2 (by decide) (zit (c := x5 < 6) h (fun h => h) (fun h => zkq_i hr2.1 (h)))
set_option maxRecDepth 20000 in
theorem g_be_layBlocks_74 {d : Nat} {M L : zM} {Q : Int → zW → Prop} {r1 r2 : Nat} {x3 x4 x5 : Int} (hr1 : zRow r1) (hr2 : zRow r2)
    (h : zEx (d + 1) m_be_layBlocks zb0 Q 47 ([zR 82, zR r1, zR r2, zI x3, zI x4, zI (zwr (x5 + 1))], [], SH, M, L)) :
    zEx (d + 1) m_be_layBlocks zb0 Q 74 ([zR 82, zR r1, zR r2, zI x3, zI x4, zI x5], [], SH, M, L) := zEx_run [8, 12, 16, 17, 28, 42, 47, 74, 86] 2 (by decide) (h)
set_option maxRecDepth 20000 in
theorem g_be_layBlocks_86 {d : Nat} {M L : zM} {Q : Int → zW → Prop} {r1 r2 : Nat} {x3 x4 x5 : Int} (hr1 : zRow r1) (hr2 : zRow r2)
    (h : zEx (d + 1) m_be_layBlocks zb0 Q 17 ([zR 82, zR r1, zR r2, zI (zwr (x3 + (-1))), zI x4, zI x5], [], SH, M, L)) :
    zEx (d + 1) m_be_layBlocks zb0 Q 86 ([zR 82, zR r1, zR r2, zI x3, zI x4, zI x5], [], SH, M, L) := zEx_run [8, 12, 16, 17, 28, 42, 47, 74, 86] 2 (by decide) (h)
set_option maxRecDepth 20000 in
theorem g_be_takeBeginning_0 {d : Nat} {M L : zM} {Q : Int → zW → Prop} {r1 r2 r3 : Nat} (hr1 : zRow r1) (hr2 : zRow r2) (hr3 : zRow r3)
    (h : zEv d m_ro_copy [zR r3, zR r1] (SH, M, L) (fun _ w => zEx (d + 1) m_be_takeBeginning zb0 Q 5 ([zR 82, zR r1, zR r2, zR r3, zN, zN], [], w))) :
    zEx (d + 1) m_be_takeBeginning zb0 Q 0 ([zR 82, zR r1, zR r2, zR r3, zN, zN], [], SH, M, L) := zEx_run [5, 8, 14, 23, 33, 49, 62] 2 (by decide) (zkq_i hr3.1 (h))
set_option maxRecDepth 20000 in
theorem g_be_takeBeginning_5 {d : Nat} {M L : zM} {Q : Int → zW → Prop} {r1 r2 r3 : Nat} (hr1 : zRow r1) (hr2 : zRow r2) (hr3 : zRow r3)
    (h : zEx (d + 1) m_be_takeBeginning zb0 Q 8 ([zR 82, zR r1, zR r2, zR r3, zI 0, zN], [], SH, M, L)) :
    zEx (d + 1) m_be_takeBeginning zb0 Q 5 ([zR 82, zR r1, zR r2, zR r3, zN, zN], [], SH, M, L) := zEx_run [5, 8, 14, 23, 33, 49, 62] 2 (by decide) (h)
set_option maxRecDepth 20000 in
theorem g_be_takeBeginning_8 {d : Nat} {M L : zM} {Q : Int → zW → Prop} {r1 r2 r3 : Nat} {x4 : Int} {v5 : zV} (hr1 : zRow r1) (hr2 : zRow r2) (hr3 : zRow r3)
    (h : zEv d m_ro_size [zR r2] (SH, M, L) (fun x w => zEx (d + 1) m_be_takeBeginning zb0 Q 14 ([zR 82, zR r1, zR r2, zR r3, zI x4, v5], [zI x, zI x4], w))) :
    zEx (d + 1) m_be_takeBeginning zb0 Q 8 ([zR 82, zR r1, zR r2, zR r3, zI x4, v5], [], SH, M, L) := zEx_run [5, 8, 14, 23, 33, 49, 62] 2 (by decide) (zkq_i hr2.1 (h))
set_option maxRecDepth 20000 in
theorem g_be_takeBeginning_14 {d : Nat} {M L : zM} {Q : Int → zW → Prop} {r1 r2 r3 : Nat} {x4 sx0 sx1 : Int} {v5 : zV} (hr1 : zRow r1) (hr2 : zRow r2) (hr3 : zRow r3)
    (h : if sx1 < sx0 then zEv d m_ro_get [zR r2, zI x4] (SH, M, L) (fun x w => zEx (d + 1) m_be_takeBeginning zb0 Q 23 ([zR 82, zR r1, zR r2, zR r3, zI x4, v5], [zI x], w)) else zEv d m_be_arrange [zR 82, zR r3, zI 0, zR r3] (SH, M, L) (fun _ w => zEx (d + 1) m_be_takeBeginning zb0 Q 62 ([zR 82, zR r1, zR r2, zR r3, zI x4, v5], [], w))) :
    zEx (d + 1) m_be_takeBeginning zb0 Q 14 ([zR 82, zR r1, zR r2, zR r3, zI x4, v5], [zI sx0, zI sx1], SH, M, L) := zEx_run [5, 8, 14, 23, 33, 49, 62] 2 (by decide) (zit (c := sx1 < sx0) h (fun h => zkq_i hr2.1 (h)) (fun h => h))
set_option maxRecDepth 20000 in
theorem g_be_takeBeginning_23 {d : Nat} {M L : zM} {Q : Int → zW → Prop} {r1 r2 r3 : Nat} {x4 sx0 : Int} {v5 : zV} (hr1 : zRow r1) (hr2 : zRow r2) (hr3 : zRow r3)
    (h : zEv d m_la_readyLetters [zR 1, zR r3] (SH, M, L) (fun x w => zEx (d + 1) m_be_takeBeginning zb0 Q 33 ([zR 82, zR r1, zR r2, zR r3, zI x4, zI sx0], [zI x], w))) :
    zEx (d + 1) m_be_takeBeginning zb0 Q 23 ([zR 82, zR r1, zR r2, zR r3, zI x4, v5], [zI sx0], SH, M, L) := zEx_run [5, 8, 14, 23, 33, 49, 62] 2 (by decide) (h)
set_option maxRecDepth 20000 in
theorem g_be_takeBeginning_33 {d : Nat} {M L : zM} {Q : Int → zW → Prop} {r1 r2 r3 : Nat} {x4 x5 sx0 : Int} (hr1 : zRow r1) (hr2 : zRow r2) (hr3 : zRow r3)
    (h : if zand (zshr sx0 x5) 1 = 0 then Q 0 (SH, M, L) else zEv d m_ro_removeFirst [zR r3, zI x5] (SH, M, L) (fun _ w => zEx (d + 1) m_be_takeBeginning zb0 Q 49 ([zR 82, zR r1, zR r2, zR r3, zI x4, zI x5], [], w))) :
    zEx (d + 1) m_be_takeBeginning zb0 Q 33 ([zR 82, zR r1, zR r2, zR r3, zI x4, zI x5], [zI sx0], SH, M, L) := zEx_run [5, 8, 14, 23, 33, 49, 62] 2 (by decide) (zit (c := zand (zshr sx0 x5) 1 = 0) h (fun h => h) (fun h => zkq_i hr3.1 (h)))
set_option maxRecDepth 20000 in
theorem g_be_takeBeginning_49 {d : Nat} {M L : zM} {Q : Int → zW → Prop} {r1 r2 r3 : Nat} {x4 x5 : Int} (hr1 : zRow r1) (hr2 : zRow r2) (hr3 : zRow r3)
    (h : zEx (d + 1) m_be_takeBeginning zb0 Q 8 ([zR 82, zR r1, zR r2, zR r3, zI (zwr (x4 + 1)), zI x5], [], SH, M, L)) :
    zEx (d + 1) m_be_takeBeginning zb0 Q 49 ([zR 82, zR r1, zR r2, zR r3, zI x4, zI x5], [], SH, M, L) := zEx_run [5, 8, 14, 23, 33, 49, 62] 2 (by decide) (h)
set_option maxRecDepth 20000 in
theorem g_be_takeBeginning_62 {d : Nat} {M L : zM} {Q : Int → zW → Prop} {r1 r2 r3 : Nat} {x4 : Int} {v5 : zV} (hr1 : zRow r1) (hr2 : zRow r2) (hr3 : zRow r3)
    (h : Q 1 (SH, M, L)) :
    zEx (d + 1) m_be_takeBeginning zb0 Q 62 ([zR 82, zR r1, zR r2, zR r3, zI x4, v5], [], SH, M, L) := zEx_run [5, 8, 14, 23, 33, 49, 62] 2 (by decide) (h)
set_option maxRecDepth 20000 in
theorem g_be_takeCommon_0 {d : Nat} {M L : zM} {Q : Int → zW → Prop} {r1 r2 r3 : Nat} (hr1 : zRow r1) (hr2 : zRow r2) (hr3 : zRow r3)
    (h : zEv d m_ro_copy [zR 85, zR r1] (SH, M, L) (fun _ w => zEx (d + 1) m_be_takeCommon zb0 Q 8 ([zR 82, zR r1, zR r2, zR r3, zN, zN, zN], [], w))) :
    zEx (d + 1) m_be_takeCommon zb0 Q 0 ([zR 82, zR r1, zR r2, zR r3, zN, zN, zN], [], SH, M, L) := zEx_run [8, 16, 20, 24, 26, 42, 53, 69, 80, 89, 95, 108] 2 (by decide) (h)
set_option maxRecDepth 20000 in
theorem g_be_takeCommon_8 {d : Nat} {M L : zM} {Q : Int → zW → Prop} {r1 r2 r3 : Nat} (hr1 : zRow r1) (hr2 : zRow r2) (hr3 : zRow r3)
    (h : zEv d m_ro_copy [zR 87, zR r2] (SH, M, L) (fun _ w => zEx (d + 1) m_be_takeCommon zb0 Q 16 ([zR 82, zR r1, zR r2, zR r3, zN, zN, zN], [], w))) :
    zEx (d + 1) m_be_takeCommon zb0 Q 8 ([zR 82, zR r1, zR r2, zR r3, zN, zN, zN], [], SH, M, L) := zEx_run [8, 16, 20, 24, 26, 42, 53, 69, 80, 89, 95, 108] 2 (by decide) (h)
set_option maxRecDepth 20000 in
theorem g_be_takeCommon_16 {d : Nat} {M L : zM} {Q : Int → zW → Prop} {r1 r2 r3 : Nat} (hr1 : zRow r1) (hr2 : zRow r2) (hr3 : zRow r3)
    (h : zEv d m_ro_clear [zR r3] (SH, M, L) (fun _ w => zEx (d + 1) m_be_takeCommon zb0 Q 20 ([zR 82, zR r1, zR r2, zR r3, zN, zN, zN], [], w))) :
    zEx (d + 1) m_be_takeCommon zb0 Q 16 ([zR 82, zR r1, zR r2, zR r3, zN, zN, zN], [], SH, M, L) := zEx_run [8, 16, 20, 24, 26, 42, 53, 69, 80, 89, 95, 108] 2 (by decide) (zkq_i hr3.1 (h))
set_option maxRecDepth 20000 in
theorem g_be_takeCommon_20 {d : Nat} {M L : zM} {Q : Int → zW → Prop} {r1 r2 r3 : Nat} (hr1 : zRow r1) (hr2 : zRow r2) (hr3 : zRow r3)
    (h : zEv d m_ro_size [zR r1] (SH, M, L) (fun x w => zEx (d + 1) m_be_takeCommon zb0 Q 24 ([zR 82, zR r1, zR r2, zR r3, zN, zN, zN], [zI x], w))) :
    zEx (d + 1) m_be_takeCommon zb0 Q 20 ([zR 82, zR r1, zR r2, zR r3, zN, zN, zN], [], SH, M, L) := zEx_run [8, 16, 20, 24, 26, 42, 53, 69, 80, 89, 95, 108] 2 (by decide) (zkq_i hr1.1 (h))
set_option maxRecDepth 20000 in
theorem g_be_takeCommon_24 {d : Nat} {M L : zM} {Q : Int → zW → Prop} {r1 r2 r3 : Nat} {sx0 : Int} (hr1 : zRow r1) (hr2 : zRow r2) (hr3 : zRow r3)
    (h : zEx (d + 1) m_be_takeCommon zb0 Q 26 ([zR 82, zR r1, zR r2, zR r3, zI sx0, zN, zN], [], SH, M, L)) :
    zEx (d + 1) m_be_takeCommon zb0 Q 24 ([zR 82, zR r1, zR r2, zR r3, zN, zN, zN], [zI sx0], SH, M, L) := zEx_run [8, 16, 20, 24, 26, 42, 53, 69, 80, 89, 95, 108] 2 (by decide) (h)
set_option maxRecDepth 20000 in
theorem g_be_takeCommon_26 {d : Nat} {M L : zM} {Q : Int → zW → Prop} {r1 r2 r3 : Nat} {x4 : Int} {v5 v6 : zV} (hr1 : zRow r1) (hr2 : zRow r2) (hr3 : zRow r3)
    (h : if 0 < x4 then zEv d m_la_readyLetters [zR 1, zR 85] (SH, M, L) (fun x w => zEx (d + 1) m_be_takeCommon zb0 Q 42 ([zR 82, zR r1, zR r2, zR r3, zI x4, v5, v6], [zI x], w)) else zEv d m_be_arrange [zR 82, zR r3, zI 0, zR r3] (SH, M, L) (fun _ w => zEx (d + 1) m_be_takeCommon zb0 Q 108 ([zR 82, zR r1, zR r2, zR r3, zI x4, v5, v6], [], w))) :
    zEx (d + 1) m_be_takeCommon zb0 Q 26 ([zR 82, zR r1, zR r2, zR r3, zI x4, v5, v6], [], SH, M, L) := zEx_run [8, 16, 20, 24, 26, 42, 53, 69, 80, 89, 95, 108] 2 (by decide) (h)
set_option maxRecDepth 20000 in
theorem g_be_takeCommon_42 {d : Nat} {M L : zM} {Q : Int → zW → Prop} {r1 r2 r3 : Nat} {x4 sx0 : Int} {v5 v6 : zV} (hr1 : zRow r1) (hr2 : zRow r2) (hr3 : zRow r3)
    (h : zEv d m_la_readyLetters [zR 1, zR 87] (SH, M, L) (fun x w => zEx (d + 1) m_be_takeCommon zb0 Q 53 ([zR 82, zR r1, zR r2, zR r3, zI x4, v5, v6], [zI x, zI sx0], w))) :
    zEx (d + 1) m_be_takeCommon zb0 Q 42 ([zR 82, zR r1, zR r2, zR r3, zI x4, v5, v6], [zI sx0], SH, M, L) := zEx_run [8, 16, 20, 24, 26, 42, 53, 69, 80, 89, 95, 108] 2 (by decide) (h)
set_option maxRecDepth 20000 in
theorem g_be_takeCommon_53 {d : Nat} {M L : zM} {Q : Int → zW → Prop} {r1 r2 r3 : Nat} {x4 sx0 sx1 : Int} {v5 v6 : zV} (hr1 : zRow r1) (hr2 : zRow r2) (hr3 : zRow r3)
    (h : if zand sx1 sx0 = 0 then zEv d m_be_arrange [zR 82, zR r3, zI 0, zR r3] (SH, M, L) (fun _ w => zEx (d + 1) m_be_takeCommon zb0 Q 108 ([zR 82, zR r1, zR r2, zR r3, zI x4, zI (zand sx1 sx0), v6], [], w)) else zEv d m_jd_numberOfTrailingZeros [zI (zand sx1 sx0)] (SH, M, L) (fun x w => zEx (d + 1) m_be_takeCommon zb0 Q 69 ([zR 82, zR r1, zR r2, zR r3, zI x4, zI (zand sx1 sx0), v6], [zI x], w))) :
    zEx (d + 1) m_be_takeCommon zb0 Q 53 ([zR 82, zR r1, zR r2, zR r3, zI x4, v5, v6], [zI sx0, zI sx1], SH, M, L) := zEx_run [8, 16, 20, 24, 26, 42, 53, 69, 80, 89, 95, 108] 2 (by decide) (h)
set_option maxRecDepth 20000 in
theorem g_be_takeCommon_69 {d : Nat} {M L : zM} {Q : Int → zW → Prop} {r1 r2 r3 : Nat} {x4 x5 sx0 : Int} {v6 : zV} (hr1 : zRow r1) (hr2 : zRow r2) (hr3 : zRow r3)
    (h : zEv d m_ro_removeFirst [zR 85, zI sx0] (SH, M, L) (fun _ w => zEx (d + 1) m_be_takeCommon zb0 Q 80 ([zR 82, zR r1, zR r2, zR r3, zI x4, zI x5, zI sx0], [], w))) :
    zEx (d + 1) m_be_takeCommon zb0 Q 69 ([zR 82, zR r1, zR r2, zR r3, zI x4, zI x5, v6], [zI sx0], SH, M, L) := zEx_run [8, 16, 20, 24, 26, 42, 53, 69, 80, 89, 95, 108] 2 (by decide) (h)
set_option maxRecDepth 20000 in
theorem g_be_takeCommon_80 {d : Nat} {M L : zM} {Q : Int → zW → Prop} {r1 r2 r3 : Nat} {x4 x5 x6 : Int} (hr1 : zRow r1) (hr2 : zRow r2) (hr3 : zRow r3)
    (h : zEv d m_ro_removeFirst [zR 87, zI x6] (SH, M, L) (fun _ w => zEx (d + 1) m_be_takeCommon zb0 Q 89 ([zR 82, zR r1, zR r2, zR r3, zI x4, zI x5, zI x6], [], w))) :
    zEx (d + 1) m_be_takeCommon zb0 Q 80 ([zR 82, zR r1, zR r2, zR r3, zI x4, zI x5, zI x6], [], SH, M, L) := zEx_run [8, 16, 20, 24, 26, 42, 53, 69, 80, 89, 95, 108] 2 (by decide) (h)
set_option maxRecDepth 20000 in
theorem g_be_takeCommon_89 {d : Nat} {M L : zM} {Q : Int → zW → Prop} {r1 r2 r3 : Nat} {x4 x5 x6 : Int} (hr1 : zRow r1) (hr2 : zRow r2) (hr3 : zRow r3)
    (h : zEv d m_ro_add [zR r3, zI x6] (SH, M, L) (fun _ w => zEx (d + 1) m_be_takeCommon zb0 Q 95 ([zR 82, zR r1, zR r2, zR r3, zI x4, zI x5, zI x6], [], w))) :
    zEx (d + 1) m_be_takeCommon zb0 Q 89 ([zR 82, zR r1, zR r2, zR r3, zI x4, zI x5, zI x6], [], SH, M, L) := zEx_run [8, 16, 20, 24, 26, 42, 53, 69, 80, 89, 95, 108] 2 (by decide) (zkq_i hr3.1 (h))
set_option maxRecDepth 20000 in
theorem g_be_takeCommon_95 {d : Nat} {M L : zM} {Q : Int → zW → Prop} {r1 r2 r3 : Nat} {x4 x5 x6 : Int} (hr1 : zRow r1) (hr2 : zRow r2) (hr3 : zRow r3)
    (h : zEx (d + 1) m_be_takeCommon zb0 Q 26 ([zR 82, zR r1, zR r2, zR r3, zI (zwr (x4 + (-1))), zI x5, zI x6], [], SH, M, L)) :
    zEx (d + 1) m_be_takeCommon zb0 Q 95 ([zR 82, zR r1, zR r2, zR r3, zI x4, zI x5, zI x6], [], SH, M, L) := zEx_run [8, 16, 20, 24, 26, 42, 53, 69, 80, 89, 95, 108] 2 (by decide) (h)
set_option maxRecDepth 20000 in
theorem g_be_takeCommon_108 {d : Nat} {M L : zM} {Q : Int → zW → Prop} {r1 r2 r3 : Nat} {x4 : Int} {v5 v6 : zV} (hr1 : zRow r1) (hr2 : zRow r2) (hr3 : zRow r3)
    (h : Q 0 (SH, M, L)) :
    zEx (d + 1) m_be_takeCommon zb0 Q 108 ([zR 82, zR r1, zR r2, zR r3, zI x4, v5, v6], [], SH, M, L) := zEx_run [8, 16, 20, 24, 26, 42, 53, 69, 80, 89, 95, 108] 2 (by decide) (h)
set_option maxRecDepth 20000 in
theorem g_be_takeRoot_0 {d : Nat} {M L : zM} {Q : Int → zW → Prop} {r1 r2 : Nat} (hr1 : zRow r1) (hr2 : zRow r2)
    (h : zEv d m_ro_size [zR r1] (SH, M, L) (fun x w => zEx (d + 1) m_be_takeRoot zb0 Q 6 ([zR 82, zR r1, zR r2, zI 1, zN], [zI x], w))) :
    zEx (d + 1) m_be_takeRoot zb0 Q 0 ([zR 82, zR r1, zR r2, zN, zN], [], SH, M, L) := zEx_run [6, 8, 22, 43, 50] 2 (by decide) (zkq_i hr1.1 (h))
set_option maxRecDepth 20000 in
theorem g_be_takeRoot_6 {d : Nat} {M L : zM} {Q : Int → zW → Prop} {r1 r2 : Nat} {x3 sx0 : Int} (hr1 : zRow r1) (hr2 : zRow r2)
    (h : zEx (d + 1) m_be_takeRoot zb0 Q 8 ([zR 82, zR r1, zR r2, zI x3, zI sx0], [], SH, M, L)) :
    zEx (d + 1) m_be_takeRoot zb0 Q 6 ([zR 82, zR r1, zR r2, zI x3, zN], [zI sx0], SH, M, L) := zEx_run [6, 8, 22, 43, 50] 2 (by decide) (h)
set_option maxRecDepth 20000 in
theorem g_be_takeRoot_8 {d : Nat} {M L : zM} {Q : Int → zW → Prop} {r1 r2 : Nat} {x3 x4 : Int} (hr1 : zRow r1) (hr2 : zRow r2)
    (h : if 1 < x4 then zEv d m_be_isPower [zR 82, zR r1, zI x4, zR r2] (SH, M, L) (fun x w => zEx (d + 1) m_be_takeRoot zb0 Q 22 ([zR 82, zR r1, zR r2, zI x3, zI x4], [zI x], w)) else zEv d m_be_takeShare [zR r1, zI x3, zR r2] (SH, M, L) (fun _ w => zEx (d + 1) m_be_takeRoot zb0 Q 43 ([zR 82, zR r1, zR r2, zI x3, zI x4], [], w))) :
    zEx (d + 1) m_be_takeRoot zb0 Q 8 ([zR 82, zR r1, zR r2, zI x3, zI x4], [], SH, M, L) := zEx_run [6, 8, 22, 43, 50] 2 (by decide) (h)
set_option maxRecDepth 20000 in
theorem g_be_takeRoot_22 {d : Nat} {M L : zM} {Q : Int → zW → Prop} {r1 r2 : Nat} {x3 x4 sx0 : Int} (hr1 : zRow r1) (hr2 : zRow r2)
    (h : if sx0 = 0 then zEx (d + 1) m_be_takeRoot zb0 Q 8 ([zR 82, zR r1, zR r2, zI x3, zI (zwr (x4 + (-1)))], [], SH, M, L) else zEv d m_be_takeShare [zR r1, zI x4, zR r2] (SH, M, L) (fun _ w => zEx (d + 1) m_be_takeRoot zb0 Q 43 ([zR 82, zR r1, zR r2, zI x4, zI x4], [], w))) :
    zEx (d + 1) m_be_takeRoot zb0 Q 22 ([zR 82, zR r1, zR r2, zI x3, zI x4], [zI sx0], SH, M, L) := zEx_run [6, 8, 22, 43, 50] 3 (by decide) (h)
set_option maxRecDepth 20000 in
theorem g_be_takeRoot_43 {d : Nat} {M L : zM} {Q : Int → zW → Prop} {r1 r2 : Nat} {x3 x4 : Int} (hr1 : zRow r1) (hr2 : zRow r2)
    (h : zEv d m_be_arrange [zR 82, zR r2, zI 0, zR r2] (SH, M, L) (fun _ w => zEx (d + 1) m_be_takeRoot zb0 Q 50 ([zR 82, zR r1, zR r2, zI x3, zI x4], [], w))) :
    zEx (d + 1) m_be_takeRoot zb0 Q 43 ([zR 82, zR r1, zR r2, zI x3, zI x4], [], SH, M, L) := zEx_run [6, 8, 22, 43, 50] 2 (by decide) (h)
set_option maxRecDepth 20000 in
theorem g_be_takeRoot_50 {d : Nat} {M L : zM} {Q : Int → zW → Prop} {r1 r2 : Nat} {x3 x4 : Int} (hr1 : zRow r1) (hr2 : zRow r2)
    (h : Q x3 (SH, M, L)) :
    zEx (d + 1) m_be_takeRoot zb0 Q 50 ([zR 82, zR r1, zR r2, zI x3, zI x4], [], SH, M, L) := zEx_run [6, 8, 22, 43, 50] 2 (by decide) (h)
set_option maxRecDepth 20000 in
theorem g_be_isPower_0 {d : Nat} {M L : zM} {Q : Int → zW → Prop} {r1 r3 : Nat} {x2 : Int} (hr1 : zRow r1) (hr3 : zRow r3)
    (h : if x2 < 1 then Q 0 (SH, M, L) else zEx (d + 1) m_be_isPower zb0 Q 10 ([zR 82, zR r1, zI x2, zR r3, zI 0], [], SH, M, L)) :
    zEx (d + 1) m_be_isPower zb0 Q 0 ([zR 82, zR r1, zI x2, zR r3, zN], [], SH, M, L) := zEx_run [10, 23, 42, 49, 58, 71, 81, 92] 3 (by decide) (h)
set_option maxRecDepth 20000 in
theorem g_be_isPower_10 {d : Nat} {M L : zM} {Q : Int → zW → Prop} {r1 r3 : Nat} {x2 x4 : Int} (hr1 : zRow r1) (hr3 : zRow r3)
    (h : if x4 < 6 then zEv d m_ro_timesOf [zR r1, zI x4] (SH, M, L) (fun x w => zEx (d + 1) m_be_isPower zb0 Q 23 ([zR 82, zR r1, zI x2, zR r3, zI x4], [zI x], w)) else zEv d m_be_takeShare [zR r1, zI x2, zR r3] (SH, M, L) (fun _ w => zEx (d + 1) m_be_isPower zb0 Q 42 ([zR 82, zR r1, zI x2, zR r3, zI x4], [], w))) :
    zEx (d + 1) m_be_isPower zb0 Q 10 ([zR 82, zR r1, zI x2, zR r3, zI x4], [], SH, M, L) := zEx_run [10, 23, 42, 49, 58, 71, 81, 92] 2 (by decide) (zit (c := x4 < 6) h (fun h => zkq_i hr1.1 (h)) (fun h => h))
set_option maxRecDepth 20000 in
theorem g_be_isPower_23 {d : Nat} {M L : zM} {Q : Int → zW → Prop} {r1 r3 : Nat} {x2 x4 sx0 : Int} (hr1 : zRow r1) (hr3 : zRow r3)
    (h : zck (x2 ≠ 0) (if zrem sx0 x2 = 0 then zEx (d + 1) m_be_isPower zb0 Q 10 ([zR 82, zR r1, zI x2, zR r3, zI (zwr (x4 + 1))], [], SH, M, L) else Q 0 (SH, M, L))) :
    zEx (d + 1) m_be_isPower zb0 Q 23 ([zR 82, zR r1, zI x2, zR r3, zI x4], [zI sx0], SH, M, L) := zEx_run [10, 23, 42, 49, 58, 71, 81, 92] 3 (by decide) (h)
set_option maxRecDepth 20000 in
theorem g_be_isPower_42 {d : Nat} {M L : zM} {Q : Int → zW → Prop} {r1 r3 : Nat} {x2 x4 : Int} (hr1 : zRow r1) (hr3 : zRow r3)
    (h : zEv d m_ro_clear [zR 85] (SH, M, L) (fun _ w => zEx (d + 1) m_be_isPower zb0 Q 49 ([zR 82, zR r1, zI x2, zR r3, zI x4], [], w))) :
    zEx (d + 1) m_be_isPower zb0 Q 42 ([zR 82, zR r1, zI x2, zR r3, zI x4], [], SH, M, L) := zEx_run [10, 23, 42, 49, 58, 71, 81, 92] 2 (by decide) (h)
set_option maxRecDepth 20000 in
theorem g_be_isPower_49 {d : Nat} {M L : zM} {Q : Int → zW → Prop} {r1 r3 : Nat} {x2 x4 : Int} (hr1 : zRow r1) (hr3 : zRow r3)
    (h : zEv d m_ro_appendTimes [zR 85, zR r3, zI x2] (SH, M, L) (fun _ w => zEx (d + 1) m_be_isPower zb0 Q 58 ([zR 82, zR r1, zI x2, zR r3, zI x4], [], w))) :
    zEx (d + 1) m_be_isPower zb0 Q 49 ([zR 82, zR r1, zI x2, zR r3, zI x4], [], SH, M, L) := zEx_run [10, 23, 42, 49, 58, 71, 81, 92] 2 (by decide) (h)
set_option maxRecDepth 20000 in
theorem g_be_isPower_58 {d : Nat} {M L : zM} {Q : Int → zW → Prop} {r1 r3 : Nat} {x2 x4 : Int} (hr1 : zRow r1) (hr3 : zRow r3)
    (h : zEv d m_be_arrange [zR 82, zR 85, zI 0, zR 85] (SH, M, L) (fun _ w => zEx (d + 1) m_be_isPower zb0 Q 71 ([zR 82, zR r1, zI x2, zR r3, zI x4], [], w))) :
    zEx (d + 1) m_be_isPower zb0 Q 58 ([zR 82, zR r1, zI x2, zR r3, zI x4], [], SH, M, L) := zEx_run [10, 23, 42, 49, 58, 71, 81, 92] 2 (by decide) (h)
set_option maxRecDepth 20000 in
theorem g_be_isPower_71 {d : Nat} {M L : zM} {Q : Int → zW → Prop} {r1 r3 : Nat} {x2 x4 : Int} (hr1 : zRow r1) (hr3 : zRow r3)
    (h : zEv d m_be_arrange [zR 82, zR r1, zI 0, zR 87] (SH, M, L) (fun _ w => zEx (d + 1) m_be_isPower zb0 Q 81 ([zR 82, zR r1, zI x2, zR r3, zI x4], [], w))) :
    zEx (d + 1) m_be_isPower zb0 Q 71 ([zR 82, zR r1, zI x2, zR r3, zI x4], [], SH, M, L) := zEx_run [10, 23, 42, 49, 58, 71, 81, 92] 2 (by decide) (h)
set_option maxRecDepth 20000 in
theorem g_be_isPower_81 {d : Nat} {M L : zM} {Q : Int → zW → Prop} {r1 r3 : Nat} {x2 x4 : Int} (hr1 : zRow r1) (hr3 : zRow r3)
    (h : zEv d m_ro_same [zR 85, zR 87] (SH, M, L) (fun x w => zEx (d + 1) m_be_isPower zb0 Q 92 ([zR 82, zR r1, zI x2, zR r3, zI x4], [zI x], w))) :
    zEx (d + 1) m_be_isPower zb0 Q 81 ([zR 82, zR r1, zI x2, zR r3, zI x4], [], SH, M, L) := zEx_run [10, 23, 42, 49, 58, 71, 81, 92] 2 (by decide) (h)
set_option maxRecDepth 20000 in
theorem g_be_isPower_92 {d : Nat} {M L : zM} {Q : Int → zW → Prop} {r1 r3 : Nat} {x2 x4 sx0 : Int} (hr1 : zRow r1) (hr3 : zRow r3)
    (h : zbl sx0 (fun b1 => Q b1 (SH, M, L))) :
    zEx (d + 1) m_be_isPower zb0 Q 92 ([zR 82, zR r1, zI x2, zR r3, zI x4], [zI sx0], SH, M, L) := zEx_run [10, 23, 42, 49, 58, 71, 81, 92] 2 (by decide) (h)
set_option maxRecDepth 20000 in
theorem g_be_takeShare_0 {d : Nat} {M L : zM} {Q : Int → zW → Prop} {r0 r2 : Nat} {x1 : Int} (hr0 : zRow r0) (hr2 : zRow r2)
    (h : zEv d m_ro_clear [zR r2] (SH, M, L) (fun _ w => zEx (d + 1) m_be_takeShare zb0 Q 4 ([zR r0, zI x1, zR r2, zN, zN], [], w))) :
    zEx (d + 1) m_be_takeShare zb0 Q 0 ([zR r0, zI x1, zR r2, zN, zN], [], SH, M, L) := zEx_run [4, 12, 17, 25, 33, 39, 50] 2 (by decide) (zkq_i hr2.1 (h))
set_option maxRecDepth 20000 in
theorem g_be_takeShare_4 {d : Nat} {M L : zM} {Q : Int → zW → Prop} {r0 r2 : Nat} {x1 : Int} (hr0 : zRow r0) (hr2 : zRow r2)
    (h : if x1 < 1 then Q 0 (SH, M, L) else zEx (d + 1) m_be_takeShare zb0 Q 12 ([zR r0, zI x1, zR r2, zI 0, zN], [], SH, M, L)) :
    zEx (d + 1) m_be_takeShare zb0 Q 4 ([zR r0, zI x1, zR r2, zN, zN], [], SH, M, L) := zEx_run [4, 12, 17, 25, 33, 39, 50] 3 (by decide) (h)
set_option maxRecDepth 20000 in
theorem g_be_takeShare_12 {d : Nat} {M L : zM} {Q : Int → zW → Prop} {r0 r2 : Nat} {x1 x3 : Int} {v4 : zV} (hr0 : zRow r0) (hr2 : zRow r2)
    (h : zEv d m_ro_size [zR r0] (SH, M, L) (fun x w => zEx (d + 1) m_be_takeShare zb0 Q 17 ([zR r0, zI x1, zR r2, zI x3, v4], [zI x, zI x3], w))) :
    zEx (d + 1) m_be_takeShare zb0 Q 12 ([zR r0, zI x1, zR r2, zI x3, v4], [], SH, M, L) := zEx_run [4, 12, 17, 25, 33, 39, 50] 2 (by decide) (zkq_i hr0.1 (h))
set_option maxRecDepth 20000 in
theorem g_be_takeShare_17 {d : Nat} {M L : zM} {Q : Int → zW → Prop} {r0 r2 : Nat} {x1 x3 sx0 sx1 : Int} {v4 : zV} (hr0 : zRow r0) (hr2 : zRow r2)
    (h : if sx1 < sx0 then zEv d m_ro_get [zR r0, zI x3] (SH, M, L) (fun x w => zEx (d + 1) m_be_takeShare zb0 Q 25 ([zR r0, zI x1, zR r2, zI x3, v4], [zI x], w)) else Q 0 (SH, M, L)) :
    zEx (d + 1) m_be_takeShare zb0 Q 17 ([zR r0, zI x1, zR r2, zI x3, v4], [zI sx0, zI sx1], SH, M, L) := zEx_run [4, 12, 17, 25, 33, 39, 50] 2 (by decide) (zit (c := sx1 < sx0) h (fun h => zkq_i hr0.1 (h)) (fun h => h))
set_option maxRecDepth 20000 in
theorem g_be_takeShare_25 {d : Nat} {M L : zM} {Q : Int → zW → Prop} {r0 r2 : Nat} {x1 x3 sx0 : Int} {v4 : zV} (hr0 : zRow r0) (hr2 : zRow r2)
    (h : zEv d m_ro_timesOf [zR r2, zI sx0] (SH, M, L) (fun x w => zEx (d + 1) m_be_takeShare zb0 Q 33 ([zR r0, zI x1, zR r2, zI x3, zI sx0], [zI x], w))) :
    zEx (d + 1) m_be_takeShare zb0 Q 25 ([zR r0, zI x1, zR r2, zI x3, v4], [zI sx0], SH, M, L) := zEx_run [4, 12, 17, 25, 33, 39, 50] 2 (by decide) (zkq_i hr2.1 (h))
set_option maxRecDepth 20000 in
theorem g_be_takeShare_33 {d : Nat} {M L : zM} {Q : Int → zW → Prop} {r0 r2 : Nat} {x1 x3 x4 sx0 : Int} (hr0 : zRow r0) (hr2 : zRow r2)
    (h : zEv d m_ro_timesOf [zR r0, zI x4] (SH, M, L) (fun x w => zEx (d + 1) m_be_takeShare zb0 Q 39 ([zR r0, zI x1, zR r2, zI x3, zI x4], [zI x, zI sx0], w))) :
    zEx (d + 1) m_be_takeShare zb0 Q 33 ([zR r0, zI x1, zR r2, zI x3, zI x4], [zI sx0], SH, M, L) := zEx_run [4, 12, 17, 25, 33, 39, 50] 2 (by decide) (zkq_i hr0.1 (h))
set_option maxRecDepth 20000 in
theorem g_be_takeShare_39 {d : Nat} {M L : zM} {Q : Int → zW → Prop} {r0 r2 : Nat} {x1 x3 x4 sx0 sx1 : Int} (hr0 : zRow r0) (hr2 : zRow r2)
    (h : zck (x1 ≠ 0) (if sx1 < zdiv sx0 x1 then zEv d m_ro_add [zR r2, zI x4] (SH, M, L) (fun _ w => zEx (d + 1) m_be_takeShare zb0 Q 50 ([zR r0, zI x1, zR r2, zI x3, zI x4], [], w)) else zEx (d + 1) m_be_takeShare zb0 Q 50 ([zR r0, zI x1, zR r2, zI x3, zI x4], [], SH, M, L))) :
    zEx (d + 1) m_be_takeShare zb0 Q 39 ([zR r0, zI x1, zR r2, zI x3, zI x4], [zI sx0, zI sx1], SH, M, L) := zEx_run [4, 12, 17, 25, 33, 39, 50] 2 (by decide) (zckm h (fun h => zit (c := sx1 < zdiv sx0 x1) h (fun h => zkq_i hr2.1 (h)) (fun h => h)))
set_option maxRecDepth 20000 in
theorem g_be_takeShare_50 {d : Nat} {M L : zM} {Q : Int → zW → Prop} {r0 r2 : Nat} {x1 x3 x4 : Int} (hr0 : zRow r0) (hr2 : zRow r2)
    (h : zEx (d + 1) m_be_takeShare zb0 Q 12 ([zR r0, zI x1, zR r2, zI (zwr (x3 + 1)), zI x4], [], SH, M, L)) :
    zEx (d + 1) m_be_takeShare zb0 Q 50 ([zR r0, zI x1, zR r2, zI x3, zI x4], [], SH, M, L) := zEx_run [4, 12, 17, 25, 33, 39, 50] 2 (by decide) (h)
set_option maxRecDepth 20000 in
theorem g_ta_countAlike_0 {d : Nat} {M L : zM} {Q : Int → zW → Prop} {r1 r2 : Nat} (hr1 : zRow r1) (hr2 : zLaw r2)
    (h : zEv d m_ro_size [zR r1] (SH, M, L) (fun x w => zEx (d + 1) m_ta_countAlike zb0 Q 4 ([zR 89, zR r1, zR r2, zN, zN], [zI x], w))) :
    zEx (d + 1) m_ta_countAlike zb0 Q 0 ([zR 89, zR r1, zR r2, zN, zN], [], SH, M, L) := zEx_run [4, 17, 35, 72, 97] 2 (by decide) (zkq_i hr1.1 (h))
set_option maxRecDepth 20000 in
theorem g_ta_countAlike_4 {d : Nat} {M L : zM} {Q : Int → zW → Prop} {r1 r2 : Nat} {sx0 : Int} (hr1 : zRow r1) (hr2 : zLaw r2)
    (h : if 14 < sx0 then Q 0 (SH, M, L) else zEv d m_ta_prepare [zR 89, zR r1, zR r2] (SH, M, L) (fun x w => zEx (d + 1) m_ta_countAlike zb0 Q 17 ([zR 89, zR r1, zR r2, zN, zN], [zI x], w))) :
    zEx (d + 1) m_ta_countAlike zb0 Q 4 ([zR 89, zR r1, zR r2, zN, zN], [zI sx0], SH, M, L) := zEx_run [4, 17, 35, 72, 97] 2 (by decide) (h)
set_option maxRecDepth 20000 in
theorem g_ta_countAlike_17 {d : Nat} {M L : zM} {Q : Int → zW → Prop} {r1 r2 : Nat} {sx0 : Int} (hr1 : zRow r1) (hr2 : zLaw r2)
    (h : if sx0 < 1 then Q 0 (SH, M, L) else if 1296 < sx0 then Q 0 (SH, M, L) else zEx (d + 1) m_ta_countAlike zb0 Q 35 ([zR 89, zR r1, zR r2, zI sx0, zI 0], [], SH, M, L)) :
    zEx (d + 1) m_ta_countAlike zb0 Q 17 ([zR 89, zR r1, zR r2, zN, zN], [zI sx0], SH, M, L) := zEx_run [4, 17, 35, 72, 97] 3 (by decide) (h)
set_option maxRecDepth 20000 in
theorem g_ta_countAlike_35 {d : Nat} {M L : zM} {Q : Int → zW → Prop} {r1 r2 : Nat} {x3 x4 : Int} (hr1 : zRow r1) (hr2 : zLaw r2)
    (h : if x4 < x3 then zck (0 ≤ x4 ∧ x4 < 1296) (zEx (d + 1) m_ta_countAlike zb0 Q 35 ([zR 89, zR r1, zR r2, zI x3, zI (zwr (x4 + 1))], [], SH, M, (zmu L 90 (Int.toNat x4) 0))) else zEx (d + 1) m_ta_countAlike zb0 Q 72 ([zR 89, zR r1, zR r2, zI x3, zI 0], [], SH, (zmu M 91 0 0), (zmu L 90 0 1))) :
    zEx (d + 1) m_ta_countAlike zb0 Q 35 ([zR 89, zR r1, zR r2, zI x3, zI x4], [], SH, M, L) := zEx_run [4, 17, 35, 72, 97] 3 (by decide) (h)
set_option maxRecDepth 20000 in
theorem g_ta_countAlike_72 {d : Nat} {M L : zM} {Q : Int → zW → Prop} {r1 r2 : Nat} {x3 x4 : Int} (hr1 : zRow r1) (hr2 : zLaw r2)
    (h : if x4 < x3 then zck (0 ≤ x4 ∧ x4 < 1296) (if 0 < zcmp (L 90 (Int.toNat x4)) 0 then zEv d m_ta_goOn [zR 89, zI x4, zI x3] (SH, M, L) (fun _ w => zEx (d + 1) m_ta_countAlike zb0 Q 97 ([zR 89, zR r1, zR r2, zI x3, zI x4], [], w)) else zEx (d + 1) m_ta_countAlike zb0 Q 97 ([zR 89, zR r1, zR r2, zI x3, zI x4], [], SH, M, L)) else zck (0 ≤ zwr (x3 - 1) ∧ zwr (x3 - 1) < 1296) (Q (L 90 (Int.toNat (zwr (x3 - 1)))) (SH, M, L))) :
    zEx (d + 1) m_ta_countAlike zb0 Q 72 ([zR 89, zR r1, zR r2, zI x3, zI x4], [], SH, M, L) := zEx_run [4, 17, 35, 72, 97] 2 (by decide) (h)
set_option maxRecDepth 20000 in
theorem g_ta_countAlike_97 {d : Nat} {M L : zM} {Q : Int → zW → Prop} {r1 r2 : Nat} {x3 x4 : Int} (hr1 : zRow r1) (hr2 : zLaw r2)
    (h : zEx (d + 1) m_ta_countAlike zb0 Q 72 ([zR 89, zR r1, zR r2, zI x3, zI (zwr (x4 + 1))], [], SH, M, L)) :
    zEx (d + 1) m_ta_countAlike zb0 Q 97 ([zR 89, zR r1, zR r2, zI x3, zI x4], [], SH, M, L) := zEx_run [4, 17, 35, 72, 97] 2 (by decide) (h)
set_option maxRecDepth 20000 in
theorem g_ta_prepare_0 {d : Nat} {M L : zM} {Q : Int → zW → Prop} {r1 r2 : Nat} (hr1 : zRow r1) (hr2 : zLaw r2)
    (h : zEx (d + 1) m_ta_prepare zb0 Q 2 ([zR 89, zR r1, zR r2, zI 0, zN, zN], [], SH, M, L)) :
    zEx (d + 1) m_ta_prepare zb0 Q 0 ([zR 89, zR r1, zR r2, zN, zN, zN], [], SH, M, L) := zEx_run [2, 23, 28, 42, 54, 69, 99, 126, 152] 2 (by decide) (h)
set_option maxRecDepth 20000 in
theorem g_ta_prepare_2 {d : Nat} {M L : zM} {Q : Int → zW → Prop} {r1 r2 : Nat} {x3 : Int} (hr1 : zRow r1) (hr2 : zLaw r2)
    (h : if x3 < 6 then zck (0 ≤ x3 ∧ x3 < 6) (zEx (d + 1) m_ta_prepare zb0 Q 2 ([zR 89, zR r1, zR r2, zI (zwr (x3 + 1)), zN, zN], [], SH, (zmu M 93 (Int.toNat x3) 0), L)) else zEx (d + 1) m_ta_prepare zb0 Q 23 ([zR 89, zR r1, zR r2, zI 0, zN, zN], [], SH, M, L)) :
    zEx (d + 1) m_ta_prepare zb0 Q 2 ([zR 89, zR r1, zR r2, zI x3, zN, zN], [], SH, M, L) := zEx_run [2, 23, 28, 42, 54, 69, 99, 126, 152] 3 (by decide) (h)
set_option maxRecDepth 20000 in
theorem g_ta_prepare_23 {d : Nat} {M L : zM} {Q : Int → zW → Prop} {r1 r2 : Nat} {x3 : Int} {v4 v5 : zV} (hr1 : zRow r1) (hr2 : zLaw r2)
    (h : zEv d m_ro_size [zR r1] (SH, M, L) (fun x w => zEx (d + 1) m_ta_prepare zb0 Q 28 ([zR 89, zR r1, zR r2, zI x3, v4, v5], [zI x, zI x3], w))) :
    zEx (d + 1) m_ta_prepare zb0 Q 23 ([zR 89, zR r1, zR r2, zI x3, v4, v5], [], SH, M, L) := zEx_run [2, 23, 28, 42, 54, 69, 99, 126, 152] 2 (by decide) (zkq_i hr1.1 (h))
set_option maxRecDepth 20000 in
theorem g_ta_prepare_28 {d : Nat} {M L : zM} {Q : Int → zW → Prop} {r1 r2 : Nat} {x3 sx0 sx1 : Int} {v4 v5 : zV} (hr1 : zRow r1) (hr2 : zLaw r2)
    (h : if sx1 < sx0 then if x3 < 14 then zEv d m_ro_get [zR r1, zI x3] (SH, M, L) (fun x w => zEx (d + 1) m_ta_prepare zb0 Q 42 ([zR 89, zR r1, zR r2, zI x3, v4, v5], [zI x], w)) else zEx (d + 1) m_ta_prepare zb0 Q 126 ([zR 89, zR r1, zR r2, zI 1, zI 0, v5], [], SH, M, L) else zEx (d + 1) m_ta_prepare zb0 Q 126 ([zR 89, zR r1, zR r2, zI 1, zI 0, v5], [], SH, M, L)) :
    zEx (d + 1) m_ta_prepare zb0 Q 28 ([zR 89, zR r1, zR r2, zI x3, v4, v5], [zI sx0, zI sx1], SH, M, L) := zEx_run [2, 23, 28, 42, 54, 69, 99, 126, 152] 3 (by decide) (zit (c := sx1 < sx0) h (fun h => zit (c := x3 < 14) h (fun h => zkq_i hr1.1 (h)) (fun h => h)) (fun h => h))
set_option maxRecDepth 20000 in
theorem g_ta_prepare_42 {d : Nat} {M L : zM} {Q : Int → zW → Prop} {r1 r2 : Nat} {x3 sx0 : Int} {v4 v5 : zV} (hr1 : zRow r1) (hr2 : zLaw r2)
    (h : zck (0 ≤ x3 ∧ x3 < 14) (zEx (d + 1) m_ta_prepare zb0 Q 54 ([zR 89, zR r1, zR r2, zI x3, zI sx0, zI 0], [], SH, (zmu M 94 (Int.toNat x3) 0), L))) :
    zEx (d + 1) m_ta_prepare zb0 Q 42 ([zR 89, zR r1, zR r2, zI x3, v4, v5], [zI sx0], SH, M, L) := zEx_run [2, 23, 28, 42, 54, 69, 99, 126, 152] 2 (by decide) (h)
set_option maxRecDepth 20000 in
theorem g_ta_prepare_54 {d : Nat} {M L : zM} {Q : Int → zW → Prop} {r1 r2 : Nat} {x3 x4 x5 : Int} (hr1 : zRow r1) (hr2 : zLaw r2)
    (h : if x5 < 6 then zEv d m_la_letPass [zR r2, zI x4, zI x5] (SH, M, L) (fun x w => zEx (d + 1) m_ta_prepare zb0 Q 69 ([zR 89, zR r1, zR r2, zI x3, zI x4, zI x5], [zI x], w)) else zEv d m_lt_noLetter [zI x4] (SH, M, L) (fun x w => zEx (d + 1) m_ta_prepare zb0 Q 99 ([zR 89, zR r1, zR r2, zI x3, zI x4, zI x5], [zI x], w))) :
    zEx (d + 1) m_ta_prepare zb0 Q 54 ([zR 89, zR r1, zR r2, zI x3, zI x4, zI x5], [], SH, M, L) := zEx_run [2, 23, 28, 42, 54, 69, 99, 126, 152] 2 (by decide) (zit (c := x5 < 6) h (fun h => zkq_i hr2.1 (h)) (fun h => h))
set_option maxRecDepth 20000 in
theorem g_ta_prepare_69 {d : Nat} {M L : zM} {Q : Int → zW → Prop} {r1 r2 : Nat} {x3 x4 x5 sx0 : Int} (hr1 : zRow r1) (hr2 : zLaw r2)
    (h : if sx0 = 0 then zck (0 ≤ x3 ∧ x3 < 14) (zck (0 ≤ x5 ∧ x5 < 6) (zck (0 ≤ x3 ∧ x3 < 14) (zEx (d + 1) m_ta_prepare zb0 Q 54 ([zR 89, zR r1, zR r2, zI x3, zI x4, zI (zwr (x5 + 1))], [], SH, (zmu M 94 (Int.toNat x3) (zor (M 94 (Int.toNat x3)) (M 93 (Int.toNat x5)))), L)))) else zEx (d + 1) m_ta_prepare zb0 Q 54 ([zR 89, zR r1, zR r2, zI x3, zI x4, zI (zwr (x5 + 1))], [], SH, M, L)) :
    zEx (d + 1) m_ta_prepare zb0 Q 69 ([zR 89, zR r1, zR r2, zI x3, zI x4, zI x5], [zI sx0], SH, M, L) := zEx_run [2, 23, 28, 42, 54, 69, 99, 126, 152] 3 (by decide) (h)
set_option maxRecDepth 20000 in
theorem g_ta_prepare_99 {d : Nat} {M L : zM} {Q : Int → zW → Prop} {r1 r2 : Nat} {x3 x4 x5 sx0 : Int} (hr1 : zRow r1) (hr2 : zLaw r2)
    (h : if sx0 = 0 then zck (0 ≤ x4 ∧ x4 < 6) (zck (0 ≤ x4 ∧ x4 < 6) (zEx (d + 1) m_ta_prepare zb0 Q 23 ([zR 89, zR r1, zR r2, zI (zwr (x3 + 1)), zI x4, zI x5], [], SH, (zmu M 93 (Int.toNat x4) (zor (M 93 (Int.toNat x4)) (zshl 1 x3))), L))) else zEx (d + 1) m_ta_prepare zb0 Q 23 ([zR 89, zR r1, zR r2, zI (zwr (x3 + 1)), zI x4, zI x5], [], SH, M, L)) :
    zEx (d + 1) m_ta_prepare zb0 Q 99 ([zR 89, zR r1, zR r2, zI x3, zI x4, zI x5], [zI sx0], SH, M, L) := zEx_run [2, 23, 28, 42, 54, 69, 99, 126, 152] 3 (by decide) (h)
set_option maxRecDepth 20000 in
theorem g_ta_prepare_126 {d : Nat} {M L : zM} {Q : Int → zW → Prop} {r1 r2 : Nat} {x3 x4 : Int} {v5 : zV} (hr1 : zRow r1) (hr2 : zLaw r2)
    (h : if x4 < 6 then zck (0 ≤ x4 ∧ x4 < 6) (zck (0 ≤ x4 ∧ x4 < 6) (zEv d m_jd_bitCount [zI ((zmu M 92 (Int.toNat x4) x3) 93 (Int.toNat x4))] (SH, (zmu M 92 (Int.toNat x4) x3), L) (fun x w => zEx (d + 1) m_ta_prepare zb0 Q 152 ([zR 89, zR r1, zR r2, zI x3, zI x4, v5], [zI x, zI x3], w)))) else Q x3 (SH, M, L)) :
    zEx (d + 1) m_ta_prepare zb0 Q 126 ([zR 89, zR r1, zR r2, zI x3, zI x4, v5], [], SH, M, L) := zEx_run [2, 23, 28, 42, 54, 69, 99, 126, 152] 2 (by decide) (h)
set_option maxRecDepth 20000 in
theorem g_ta_prepare_152 {d : Nat} {M L : zM} {Q : Int → zW → Prop} {r1 r2 : Nat} {x3 x4 sx0 sx1 : Int} {v5 : zV} (hr1 : zRow r1) (hr2 : zLaw r2)
    (h : zEx (d + 1) m_ta_prepare zb0 Q 126 ([zR 89, zR r1, zR r2, zI (zwr (sx1 * (zwr (sx0 + 1)))), zI (zwr (x4 + 1)), v5], [], SH, M, L)) :
    zEx (d + 1) m_ta_prepare zb0 Q 152 ([zR 89, zR r1, zR r2, zI x3, zI x4, v5], [zI sx0, zI sx1], SH, M, L) := zEx_run [2, 23, 28, 42, 54, 69, 99, 126, 152] 2 (by decide) (h)
set_option maxRecDepth 20000 in
theorem g_ta_goOn_0 {d : Nat} {M L : zM} {Q : Int → zW → Prop} {x1 x2 : Int} 
    (h : zEx (d + 1) m_ta_goOn zb0 Q 2 ([zR 89, zI x1, zI x2, zI 0, zN, zN, zN], [], SH, M, L)) :
    zEx (d + 1) m_ta_goOn zb0 Q 0 ([zR 89, zI x1, zI x2, zN, zN, zN, zN], [], SH, M, L) := zEx_run [2, 30] 2 (by decide) (h)
set_option maxRecDepth 20000 in
theorem g_ta_goOn_2 {d : Nat} {M L : zM} {Q : Int → zW → Prop} {x1 x2 x3 : Int} {v4 v5 v6 : zV} 
    (h : if x3 < 6 then zck (0 ≤ x3 ∧ x3 < 6) (zck (0 ≤ x1 ∧ x1 < 1296) (zEv d m_jd_numberOfTrailingZeros [zI (zand (M 93 (Int.toNat x3)) (zxor (M 91 (Int.toNat x1)) (-1)))] (SH, M, L) (fun x w => zEx (d + 1) m_ta_goOn zb0 Q 30 ([zR 89, zI x1, zI x2, zI x3, zI (zand (M 93 (Int.toNat x3)) (zxor (M 91 (Int.toNat x1)) (-1))), v5, v6], [zI x], w)))) else Q 0 (SH, M, L)) :
    zEx (d + 1) m_ta_goOn zb0 Q 2 ([zR 89, zI x1, zI x2, zI x3, v4, v5, v6], [], SH, M, L) := zEx_run [2, 30] 2 (by decide) (h)
set_option maxRecDepth 20000 in
theorem g_ta_goOn_30 {d : Nat} {M L : zM} {Q : Int → zW → Prop} {x1 x2 x3 x4 sx0 : Int} {v5 v6 : zV} 
    (h : if sx0 < 14 then zck (0 ≤ sx0 ∧ sx0 < 14) (zck (0 ≤ x1 ∧ x1 < 1296) (if zand (M 94 (Int.toNat sx0)) (zxor (M 91 (Int.toNat x1)) (-1)) = 0 then zck (0 ≤ x3 ∧ x3 < 6) (if zwr (x1 + (M 92 (Int.toNat x3))) < x2 then zck (0 ≤ zwr (x1 + (M 92 (Int.toNat x3))) ∧ zwr (x1 + (M 92 (Int.toNat x3))) < 1296) (zck (0 ≤ x1 ∧ x1 < 1296) (zck (0 ≤ zwr (x1 + (M 92 (Int.toNat x3))) ∧ zwr (x1 + (M 92 (Int.toNat x3))) < 1296) (zck (0 ≤ x1 ∧ x1 < 1296) (zck (0 ≤ zwr (x1 + (M 92 (Int.toNat x3))) ∧ zwr (x1 + (M 92 (Int.toNat x3))) < 1296) (zEx (d + 1) m_ta_goOn zb0 Q 2 ([zR 89, zI x1, zI x2, zI (zwr (x3 + 1)), zI x4, zI sx0, zI (zwr (x1 + (M 92 (Int.toNat x3))))], [], SH, (zmu M 91 (Int.toNat (zwr (x1 + (M 92 (Int.toNat x3))))) (zor (M 91 (Int.toNat x1)) (zshl 1 sx0))), (zmu L 90 (Int.toNat (zwr (x1 + (M 92 (Int.toNat x3))))) (zwl ((L 90 (Int.toNat (zwr (x1 + (M 92 (Int.toNat x3)))))) + (L 90 (Int.toNat x1))))))))))) else zEx (d + 1) m_ta_goOn zb0 Q 2 ([zR 89, zI x1, zI x2, zI (zwr (x3 + 1)), zI x4, zI sx0, zI (zwr (x1 + (M 92 (Int.toNat x3))))], [], SH, M, L)) else zEx (d + 1) m_ta_goOn zb0 Q 2 ([zR 89, zI x1, zI x2, zI (zwr (x3 + 1)), zI x4, zI sx0, v6], [], SH, M, L))) else zEx (d + 1) m_ta_goOn zb0 Q 2 ([zR 89, zI x1, zI x2, zI (zwr (x3 + 1)), zI x4, zI sx0, v6], [], SH, M, L)) :
    zEx (d + 1) m_ta_goOn zb0 Q 30 ([zR 89, zI x1, zI x2, zI x3, zI x4, v5, v6], [zI sx0], SH, M, L) := zEx_run [2, 30] 4 (by decide) (h)
set_option maxRecDepth 20000 in
theorem g_ta_countUnlike_0 {d : Nat} {M L : zM} {Q : Int → zW → Prop} {x1 x2 : Int} {r3 : Nat} (hr3 : zLaw r3)
    (h : zEx (d + 1) m_ta_countUnlike zb0 Q 3 ([zR 89, zI x1, zI x2, zR r3, zI 0, zN, zN, zN, zN, zN, zN], [], SH, M, L)) :
    zEx (d + 1) m_ta_countUnlike zb0 Q 0 ([zR 89, zI x1, zI x2, zR r3, zN, zN, zN, zN, zN, zN, zN], [], SH, M, L) := zEx_run [3, 27, 46, 58, 87, 100] 2 (by decide) (h)
set_option maxRecDepth 20000 in
theorem g_ta_countUnlike_3 {d : Nat} {M L : zM} {Q : Int → zW → Prop} {x1 x2 x4 : Int} {r3 : Nat} (hr3 : zLaw r3)
    (h : if 6 < x4 then zEx (d + 1) m_ta_countUnlike zb0 Q 27 ([zR 89, zI x1, zI x2, zR r3, zI 0, zN, zN, zN, zN, zN, zN], [], SH, M, L) else zck (0 ≤ x4 ∧ x4 < 7) (zEx (d + 1) m_ta_countUnlike zb0 Q 3 ([zR 89, zI x1, zI x2, zR r3, zI (zwr (x4 + 1)), zN, zN, zN, zN, zN, zN], [], SH, (zmu M 95 (Int.toNat x4) 0), L))) :
    zEx (d + 1) m_ta_countUnlike zb0 Q 3 ([zR 89, zI x1, zI x2, zR r3, zI x4, zN, zN, zN, zN, zN, zN], [], SH, M, L) := zEx_run [3, 27, 46, 58, 87, 100] 3 (by decide) (h)
set_option maxRecDepth 20000 in
theorem g_ta_countUnlike_27 {d : Nat} {M L : zM} {Q : Int → zW → Prop} {x1 x2 x4 : Int} {r3 : Nat} (hr3 : zLaw r3)
    (h : if x4 < zshl 1 (zmin x2 6) then zEv d m_la_isFree [zR r3, zI x4] (SH, M, L) (fun x w => zEx (d + 1) m_ta_countUnlike zb0 Q 46 ([zR 89, zI x1, zI x2, zR r3, zI x4, zN, zN, zN, zN, zN, zN], [zI x], w)) else zEx (d + 1) m_ta_countUnlike zb0 Q 87 ([zR 89, zI x1, zI x2, zR r3, zI (zmin x1 12), zI 1, zN, zN, zN, zN, zN], [], SH, M, (zmu L 96 0 1))) :
    zEx (d + 1) m_ta_countUnlike zb0 Q 27 ([zR 89, zI x1, zI x2, zR r3, zI x4, zN, zN, zN, zN, zN, zN], [], SH, M, L) := zEx_run [3, 27, 46, 58, 87, 100] 3 (by decide) (zit (c := x4 < zshl 1 (zmin x2 6)) h (fun h => zkq_i hr3.1 (h)) (fun h => h))
set_option maxRecDepth 20000 in
theorem g_ta_countUnlike_46 {d : Nat} {M L : zM} {Q : Int → zW → Prop} {x1 x2 x4 sx0 : Int} {r3 : Nat} (hr3 : zLaw r3)
    (h : if sx0 = 0 then zEx (d + 1) m_ta_countUnlike zb0 Q 27 ([zR 89, zI x1, zI x2, zR r3, zI (zwr (x4 + 1)), zN, zN, zN, zN, zN, zN], [], SH, M, L) else zEv d m_jd_bitCount [zI x4] (SH, M, L) (fun x w => zEx (d + 1) m_ta_countUnlike zb0 Q 58 ([zR 89, zI x1, zI x2, zR r3, zI x4, zN, zN, zN, zN, zN, zN], [zI x, zR 95], w))) :
    zEx (d + 1) m_ta_countUnlike zb0 Q 46 ([zR 89, zI x1, zI x2, zR r3, zI x4, zN, zN, zN, zN, zN, zN], [zI sx0], SH, M, L) := zEx_run [3, 27, 46, 58, 87, 100] 3 (by decide) (h)
set_option maxRecDepth 20000 in
theorem g_ta_countUnlike_58 {d : Nat} {M L : zM} {Q : Int → zW → Prop} {x1 x2 x4 sx0 : Int} {r3 : Nat} (hr3 : zLaw r3)
    (h : zck (0 ≤ sx0 ∧ sx0 < 7) (zck (0 ≤ sx0 ∧ sx0 < 7) (zEx (d + 1) m_ta_countUnlike zb0 Q 27 ([zR 89, zI x1, zI x2, zR r3, zI (zwr (x4 + 1)), zN, zN, zN, zN, zN, zN], [], SH, (zmu M 95 (Int.toNat sx0) (zwr ((M 95 (Int.toNat sx0)) + 1))), L)))) :
    zEx (d + 1) m_ta_countUnlike zb0 Q 58 ([zR 89, zI x1, zI x2, zR r3, zI x4, zN, zN, zN, zN, zN, zN], [zI sx0, zR 95], SH, M, L) := zEx_run [3, 27, 46, 58, 87, 100] 3 (by decide) (h)
set_option maxRecDepth 20000 in
theorem g_ta_countUnlike_87 {d : Nat} {M L : zM} {Q : Int → zW → Prop} {x1 x2 x4 x5 : Int} {r3 : Nat} {v6 v8 v9 : zV} (hr3 : zLaw r3)
    (h : if x4 < x5 then if x4 < 0 then Q 0 (SH, M, L) else zck (0 ≤ x4 ∧ x4 < 13) (Q (L 96 (Int.toNat x4)) (SH, M, L)) else zEx (d + 1) m_ta_countUnlike zb0 Q 100 ([zR 89, zI x1, zI x2, zR r3, zI x4, zI x5, zL 0, zN, zI 1, v9, zN], [], SH, M, L)) :
    zEx (d + 1) m_ta_countUnlike zb0 Q 87 ([zR 89, zI x1, zI x2, zR r3, zI x4, zI x5, v6, zN, v8, v9, zN], [], SH, M, L) := zEx_run [3, 27, 46, 58, 87, 100] 4 (by decide) (h)
set_option maxRecDepth 20000 in
theorem g_ta_countUnlike_100 {d : Nat} {M L : zM} {Q : Int → zW → Prop} {x1 x2 x4 x5 y6 x8 : Int} {r3 : Nat} {v9 : zV} (hr3 : zLaw r3)
    (h : if 6 < x8 then zck (0 ≤ x5 ∧ x5 < 13) (zEx (d + 1) m_ta_countUnlike zb0 Q 87 ([zR 89, zI x1, zI x2, zR r3, zI x4, zI (zwr (x5 + 1)), zL y6, zN, zI x8, v9, zN], [], SH, M, (zmu L 96 (Int.toNat x5) y6))) else if x5 < x8 then zck (0 ≤ x5 ∧ x5 < 13) (zEx (d + 1) m_ta_countUnlike zb0 Q 87 ([zR 89, zI x1, zI x2, zR r3, zI x4, zI (zwr (x5 + 1)), zL y6, zN, zI x8, v9, zN], [], SH, M, (zmu L 96 (Int.toNat x5) y6))) else zck (0 ≤ x8 ∧ x8 < 7) (zck (0 ≤ zwr (x5 - x8) ∧ zwr (x5 - x8) < 13) (if zrem x8 2 = 1 then zEx (d + 1) m_ta_countUnlike zb0 Q 100 ([zR 89, zI x1, zI x2, zR r3, zI x4, zI x5, zL (zwl (y6 + (zwl ((M 95 (Int.toNat x8)) * (L 96 (Int.toNat (zwr (x5 - x8)))))))), zN, zI (zwr (x8 + 1)), zL (zwl ((M 95 (Int.toNat x8)) * (L 96 (Int.toNat (zwr (x5 - x8)))))), zN], [], SH, M, L) else zEx (d + 1) m_ta_countUnlike zb0 Q 100 ([zR 89, zI x1, zI x2, zR r3, zI x4, zI x5, zL (zwl (y6 + (zwl (-(zwl ((M 95 (Int.toNat x8)) * (L 96 (Int.toNat (zwr (x5 - x8)))))))))), zN, zI (zwr (x8 + 1)), zL (zwl ((M 95 (Int.toNat x8)) * (L 96 (Int.toNat (zwr (x5 - x8)))))), zN], [], SH, M, L)))) :
    zEx (d + 1) m_ta_countUnlike zb0 Q 100 ([zR 89, zI x1, zI x2, zR r3, zI x4, zI x5, zL y6, zN, zI x8, v9, zN], [], SH, M, L) := zEx_run [3, 27, 46, 58, 87, 100] 4 (by decide) (h)
set_option maxRecDepth 20000 in
theorem g_tu_found_0 {d : Nat} {M L : zM} {Q : Int → zW → Prop}  
    (h : Q (M 97 8) (SH, M, L)) :
    zEx (d + 1) m_tu_found zb0 Q 0 ([zR 97], [], SH, M, L) := zEx_run [] 2 (by decide) (h)
set_option maxRecDepth 20000 in
theorem g_tu_explore_0 {d : Nat} {M L : zM} {Q : Int → zW → Prop} {r1 : Nat} (hr1 : zRow r1)
    (h : zEv d m_be_arrange [zR 82, zR r1, zI 0, zR 101] (SH, M, L) (fun _ w => zEx (d + 1) m_tu_explore zb0 Q 13 ([zR 97, zR r1, zN, zN], [], w))) :
    zEx (d + 1) m_tu_explore zb0 Q 0 ([zR 97, zR r1, zN, zN], [], SH, M, L) := zEx_run [13, 20, 49, 64, 72, 86, 88, 107, 117] 2 (by decide) (h)
set_option maxRecDepth 20000 in
theorem g_tu_explore_13 {d : Nat} {M L : zM} {Q : Int → zW → Prop} {r1 : Nat} (hr1 : zRow r1)
    (h : zEv d m_tu_codeOf [zR 101] (SH, M, L) (fun x w => zEx (d + 1) m_tu_explore zb0 Q 20 ([zR 97, zR r1, zN, zN], [zI x], w))) :
    zEx (d + 1) m_tu_explore zb0 Q 13 ([zR 97, zR r1, zN, zN], [], SH, M, L) := zEx_run [13, 20, 49, 64, 72, 86, 88, 107, 117] 2 (by decide) (h)
set_option maxRecDepth 20000 in
theorem g_tu_explore_20 {d : Nat} {M L : zM} {Q : Int → zW → Prop} {r1 : Nat} {sx0 : Int} (hr1 : zRow r1)
    (h : if 0 < M 97 8 then if M 105 0 = sx0 then zEv d m_la_same [zR 98, zR 1] (SH, M, L) (fun x w => zEx (d + 1) m_tu_explore zb0 Q 49 ([zR 97, zR r1, zI sx0, zN], [zI x], w)) else zEv d m_la_copy [zR 98, zR 1] (SH, M, L) (fun _ w => zEx (d + 1) m_tu_explore zb0 Q 64 ([zR 97, zR r1, zI sx0, zN], [], w)) else zEv d m_la_copy [zR 98, zR 1] (SH, M, L) (fun _ w => zEx (d + 1) m_tu_explore zb0 Q 64 ([zR 97, zR r1, zI sx0, zN], [], w))) :
    zEx (d + 1) m_tu_explore zb0 Q 20 ([zR 97, zR r1, zN, zN], [zI sx0], SH, M, L) := zEx_run [13, 20, 49, 64, 72, 86, 88, 107, 117] 2 (by decide) (h)
set_option maxRecDepth 20000 in
theorem g_tu_explore_49 {d : Nat} {M L : zM} {Q : Int → zW → Prop} {r1 : Nat} {x2 sx0 : Int} (hr1 : zRow r1)
    (h : if sx0 = 0 then zEv d m_la_copy [zR 98, zR 1] (SH, M, L) (fun _ w => zEx (d + 1) m_tu_explore zb0 Q 64 ([zR 97, zR r1, zI x2, zN], [], w)) else Q 0 (SH, M, L)) :
    zEx (d + 1) m_tu_explore zb0 Q 49 ([zR 97, zR r1, zI x2, zN], [zI sx0], SH, M, L) := zEx_run [13, 20, 49, 64, 72, 86, 88, 107, 117] 2 (by decide) (h)
set_option maxRecDepth 20000 in
theorem g_tu_explore_64 {d : Nat} {M L : zM} {Q : Int → zW → Prop} {r1 : Nat} {x2 : Int} (hr1 : zRow r1)
    (h : zEv d m_ro_size [zR 101] (SH, M, L) (fun x w => zEx (d + 1) m_tu_explore zb0 Q 72 ([zR 97, zR r1, zI x2, zN], [zI x, zR 97], w))) :
    zEx (d + 1) m_tu_explore zb0 Q 64 ([zR 97, zR r1, zI x2, zN], [], SH, M, L) := zEx_run [13, 20, 49, 64, 72, 86, 88, 107, 117] 2 (by decide) (h)
set_option maxRecDepth 20000 in
theorem g_tu_explore_72 {d : Nat} {M L : zM} {Q : Int → zW → Prop} {r1 : Nat} {x2 sx0 : Int} (hr1 : zRow r1)
    (h : zEv d m_tu_note [zR 97, zI x2, zI 0] (SH, (zmu (zmu M 97 9 sx0) 97 8 0), L) (fun _ w => zEx (d + 1) m_tu_explore zb0 Q 86 ([zR 97, zR r1, zI x2, zN], [], w))) :
    zEx (d + 1) m_tu_explore zb0 Q 72 ([zR 97, zR r1, zI x2, zN], [zI sx0, zR 97], SH, M, L) := zEx_run [13, 20, 49, 64, 72, 86, 88, 107, 117] 2 (by decide) (h)
set_option maxRecDepth 20000 in
theorem g_tu_explore_86 {d : Nat} {M L : zM} {Q : Int → zW → Prop} {r1 : Nat} {x2 : Int} (hr1 : zRow r1)
    (h : zEx (d + 1) m_tu_explore zb0 Q 88 ([zR 97, zR r1, zI x2, zI 0], [], SH, M, L)) :
    zEx (d + 1) m_tu_explore zb0 Q 86 ([zR 97, zR r1, zI x2, zN], [], SH, M, L) := zEx_run [13, 20, 49, 64, 72, 86, 88, 107, 117] 2 (by decide) (h)
set_option maxRecDepth 20000 in
theorem g_tu_explore_88 {d : Nat} {M L : zM} {Q : Int → zW → Prop} {r1 : Nat} {x2 x3 : Int} (hr1 : zRow r1)
    (h : if x3 < M 97 8 then if x3 < 64 then zEv d m_tu_moveAll [zR 97, zI x3] (SH, M, L) (fun _ w => zEx (d + 1) m_tu_explore zb0 Q 107 ([zR 97, zR r1, zI x2, zI x3], [], w)) else zEv d m_tu_sortCodes [zR 97] (SH, M, L) (fun _ w => zEx (d + 1) m_tu_explore zb0 Q 117 ([zR 97, zR r1, zI x2, zI x3], [], w)) else zEv d m_tu_sortCodes [zR 97] (SH, M, L) (fun _ w => zEx (d + 1) m_tu_explore zb0 Q 117 ([zR 97, zR r1, zI x2, zI x3], [], w))) :
    zEx (d + 1) m_tu_explore zb0 Q 88 ([zR 97, zR r1, zI x2, zI x3], [], SH, M, L) := zEx_run [13, 20, 49, 64, 72, 86, 88, 107, 117] 2 (by decide) (h)
set_option maxRecDepth 20000 in
theorem g_tu_explore_107 {d : Nat} {M L : zM} {Q : Int → zW → Prop} {r1 : Nat} {x2 x3 : Int} (hr1 : zRow r1)
    (h : zEx (d + 1) m_tu_explore zb0 Q 88 ([zR 97, zR r1, zI x2, zI (zwr (x3 + 1))], [], SH, M, L)) :
    zEx (d + 1) m_tu_explore zb0 Q 107 ([zR 97, zR r1, zI x2, zI x3], [], SH, M, L) := zEx_run [13, 20, 49, 64, 72, 86, 88, 107, 117] 2 (by decide) (h)
set_option maxRecDepth 20000 in
theorem g_tu_explore_117 {d : Nat} {M L : zM} {Q : Int → zW → Prop} {r1 : Nat} {x2 x3 : Int} (hr1 : zRow r1)
    (h : Q 0 (SH, M, L)) :
    zEx (d + 1) m_tu_explore zb0 Q 117 ([zR 97, zR r1, zI x2, zI x3], [], SH, M, L) := zEx_run [13, 20, 49, 64, 72, 86, 88, 107, 117] 2 (by decide) (h)
set_option maxRecDepth 20000 in
theorem g_tu_moveAll_0 {d : Nat} {M L : zM} {Q : Int → zW → Prop} {x1 : Int} 
    (h : zck (0 ≤ x1 ∧ x1 < 64) (zEv d m_tu_decode [zR 97, zI (M 105 (Int.toNat x1))] (SH, M, L) (fun _ w => zEx (d + 1) m_tu_moveAll zb0 Q 10 ([zR 97, zI x1, zN, zN], [], w)))) :
    zEx (d + 1) m_tu_moveAll zb0 Q 0 ([zR 97, zI x1, zN, zN], [], SH, M, L) := zEx_run [10, 21, 24, 50, 58, 66, 82, 90, 101] 2 (by decide) (h)
set_option maxRecDepth 20000 in
theorem g_tu_moveAll_10 {d : Nat} {M L : zM} {Q : Int → zW → Prop} {x1 : Int} 
    (h : zEv d m_la_readyLetters [zR 1, zR 101] (SH, M, L) (fun x w => zEx (d + 1) m_tu_moveAll zb0 Q 21 ([zR 97, zI x1, zN, zN], [zI x], w))) :
    zEx (d + 1) m_tu_moveAll zb0 Q 10 ([zR 97, zI x1, zN, zN], [], SH, M, L) := zEx_run [10, 21, 24, 50, 58, 66, 82, 90, 101] 2 (by decide) (h)
set_option maxRecDepth 20000 in
theorem g_tu_moveAll_21 {d : Nat} {M L : zM} {Q : Int → zW → Prop} {x1 sx0 : Int} 
    (h : zEx (d + 1) m_tu_moveAll zb0 Q 24 ([zR 97, zI x1, zI sx0, zI 0], [], SH, M, L)) :
    zEx (d + 1) m_tu_moveAll zb0 Q 21 ([zR 97, zI x1, zN, zN], [zI sx0], SH, M, L) := zEx_run [10, 21, 24, 50, 58, 66, 82, 90, 101] 2 (by decide) (h)
set_option maxRecDepth 20000 in
theorem g_tu_moveAll_24 {d : Nat} {M L : zM} {Q : Int → zW → Prop} {x1 x2 x3 : Int} 
    (h : if x3 < 6 then if zand (zshr x2 x3) 1 = 1 then zEv d m_ro_copy [zR 103, zR 101] (SH, M, L) (fun _ w => zEx (d + 1) m_tu_moveAll zb0 Q 50 ([zR 97, zI x1, zI x2, zI x3], [], w)) else zEx (d + 1) m_tu_moveAll zb0 Q 101 ([zR 97, zI x1, zI x2, zI x3], [], SH, M, L) else Q 0 (SH, M, L)) :
    zEx (d + 1) m_tu_moveAll zb0 Q 24 ([zR 97, zI x1, zI x2, zI x3], [], SH, M, L) := zEx_run [10, 21, 24, 50, 58, 66, 82, 90, 101] 2 (by decide) (h)
set_option maxRecDepth 20000 in
theorem g_tu_moveAll_50 {d : Nat} {M L : zM} {Q : Int → zW → Prop} {x1 x2 x3 : Int} 
    (h : zEv d m_ro_removeFirst [zR 103, zI x3] (SH, M, L) (fun _ w => zEx (d + 1) m_tu_moveAll zb0 Q 58 ([zR 97, zI x1, zI x2, zI x3], [], w))) :
    zEx (d + 1) m_tu_moveAll zb0 Q 50 ([zR 97, zI x1, zI x2, zI x3], [], SH, M, L) := zEx_run [10, 21, 24, 50, 58, 66, 82, 90, 101] 2 (by decide) (h)
set_option maxRecDepth 20000 in
theorem g_tu_moveAll_58 {d : Nat} {M L : zM} {Q : Int → zW → Prop} {x1 x2 x3 : Int} 
    (h : zEv d m_ro_add [zR 103, zI x3] (SH, M, L) (fun _ w => zEx (d + 1) m_tu_moveAll zb0 Q 66 ([zR 97, zI x1, zI x2, zI x3], [], w))) :
    zEx (d + 1) m_tu_moveAll zb0 Q 58 ([zR 97, zI x1, zI x2, zI x3], [], SH, M, L) := zEx_run [10, 21, 24, 50, 58, 66, 82, 90, 101] 2 (by decide) (h)
set_option maxRecDepth 20000 in
theorem g_tu_moveAll_66 {d : Nat} {M L : zM} {Q : Int → zW → Prop} {x1 x2 x3 : Int} 
    (h : zEv d m_be_arrange [zR 82, zR 103, zI 0, zR 103] (SH, M, L) (fun _ w => zEx (d + 1) m_tu_moveAll zb0 Q 82 ([zR 97, zI x1, zI x2, zI x3], [], w))) :
    zEx (d + 1) m_tu_moveAll zb0 Q 66 ([zR 97, zI x1, zI x2, zI x3], [], SH, M, L) := zEx_run [10, 21, 24, 50, 58, 66, 82, 90, 101] 2 (by decide) (h)
set_option maxRecDepth 20000 in
theorem g_tu_moveAll_82 {d : Nat} {M L : zM} {Q : Int → zW → Prop} {x1 x2 x3 : Int} 
    (h : zEv d m_tu_codeOf [zR 103] (SH, M, L) (fun x w => zEx (d + 1) m_tu_moveAll zb0 Q 90 ([zR 97, zI x1, zI x2, zI x3], [zI x, zR 97], w))) :
    zEx (d + 1) m_tu_moveAll zb0 Q 82 ([zR 97, zI x1, zI x2, zI x3], [], SH, M, L) := zEx_run [10, 21, 24, 50, 58, 66, 82, 90, 101] 2 (by decide) (h)
set_option maxRecDepth 20000 in
theorem g_tu_moveAll_90 {d : Nat} {M L : zM} {Q : Int → zW → Prop} {x1 x2 x3 sx0 : Int} 
    (h : zck (0 ≤ x1 ∧ x1 < 64) (zEv d m_tu_note [zR 97, zI sx0, zI (zwr ((M 106 (Int.toNat x1)) + 1))] (SH, M, L) (fun _ w => zEx (d + 1) m_tu_moveAll zb0 Q 101 ([zR 97, zI x1, zI x2, zI x3], [], w)))) :
    zEx (d + 1) m_tu_moveAll zb0 Q 90 ([zR 97, zI x1, zI x2, zI x3], [zI sx0, zR 97], SH, M, L) := zEx_run [10, 21, 24, 50, 58, 66, 82, 90, 101] 2 (by decide) (h)
set_option maxRecDepth 20000 in
theorem g_tu_moveAll_101 {d : Nat} {M L : zM} {Q : Int → zW → Prop} {x1 x2 x3 : Int} 
    (h : zEx (d + 1) m_tu_moveAll zb0 Q 24 ([zR 97, zI x1, zI x2, zI (zwr (x3 + 1))], [], SH, M, L)) :
    zEx (d + 1) m_tu_moveAll zb0 Q 101 ([zR 97, zI x1, zI x2, zI x3], [], SH, M, L) := zEx_run [10, 21, 24, 50, 58, 66, 82, 90, 101] 2 (by decide) (h)
set_option maxRecDepth 20000 in
theorem g_tu_note_0 {d : Nat} {M L : zM} {Q : Int → zW → Prop} {x1 x2 : Int} 
    (h : zEv d m_tu_find [zR 97, zI x1] (SH, M, L) (fun x w => zEx (d + 1) m_tu_note zb0 Q 5 ([zR 97, zI x1, zI x2], [zI x], w))) :
    zEx (d + 1) m_tu_note zb0 Q 0 ([zR 97, zI x1, zI x2], [], SH, M, L) := zEx_run [5] 2 (by decide) (h)
set_option maxRecDepth 20000 in
theorem g_tu_note_5 {d : Nat} {M L : zM} {Q : Int → zW → Prop} {x1 x2 sx0 : Int} 
    (h : if sx0 < 0 then if M 97 8 < 64 then zck (0 ≤ M 97 8 ∧ M 97 8 < 64) (zck (0 ≤ (zmu M 105 (Int.toNat (M 97 8)) x1) 97 8 ∧ (zmu M 105 (Int.toNat (M 97 8)) x1) 97 8 < 64) (Q 0 (SH, (zmu (zmu (zmu M 105 (Int.toNat (M 97 8)) x1) 106 (Int.toNat ((zmu M 105 (Int.toNat (M 97 8)) x1) 97 8)) x2) 97 8 (zwr (((zmu (zmu M 105 (Int.toNat (M 97 8)) x1) 106 (Int.toNat ((zmu M 105 (Int.toNat (M 97 8)) x1) 97 8)) x2) 97 8) + 1))), L))) else Q 0 (SH, M, L) else Q 0 (SH, M, L)) :
    zEx (d + 1) m_tu_note zb0 Q 5 ([zR 97, zI x1, zI x2], [zI sx0], SH, M, L) := zEx_run [5] 2 (by decide) (h)
set_option maxRecDepth 20000 in
theorem g_tu_find_0 {d : Nat} {M L : zM} {Q : Int → zW → Prop} {x1 : Int} 
    (h : zEx (d + 1) m_tu_find zb0 Q 2 ([zR 97, zI x1, zI 0], [], SH, M, L)) :
    zEx (d + 1) m_tu_find zb0 Q 0 ([zR 97, zI x1, zN], [], SH, M, L) := zEx_run [2] 2 (by decide) (h)
set_option maxRecDepth 20000 in
theorem g_tu_find_2 {d : Nat} {M L : zM} {Q : Int → zW → Prop} {x1 x2 : Int} 
    (h : if x2 < M 97 8 then if x2 < 64 then zck (0 ≤ x2 ∧ x2 < 64) (if M 105 (Int.toNat x2) = x1 then Q x2 (SH, M, L) else zEx (d + 1) m_tu_find zb0 Q 2 ([zR 97, zI x1, zI (zwr (x2 + 1))], [], SH, M, L)) else Q (-9) (SH, M, L) else Q (-9) (SH, M, L)) :
    zEx (d + 1) m_tu_find zb0 Q 2 ([zR 97, zI x1, zI x2], [], SH, M, L) := zEx_run [2] 3 (by decide) (h)
