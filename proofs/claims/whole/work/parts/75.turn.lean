/-! turned, turn, apart: by the reference -/
section MU
variable {d : Nat} {M M' L : zM} {Q : Int → zW → Prop} {P R : Nat → Nat} {ws : List (List Int)} {tx : List Int} {hs : List zLw} {kp : zKp} {ls : Nat → Option (List Int)} {rf : Nat → Int} {u w : List Int} {r k : Nat} {bf : List (List Int × Nat)}
theorem fM3.i (h : fM3 M M') (hI : iM M P R ws tx hs kp ls rf) : iM M' P R ws tx hs kp ls rf :=
  hI.sx (S := [128, 130, 131, 138, 139]) (T := [33]) (fun k h1 h2 => h.1 k (fun z => by
    rcases List.mem_cons.mp z with q | q
    · exact h2 q
    · exact h1 q)) (fun j hj => h.2 j (by simpa using hj)) (by simp) (by simp) (hI.s.of (h.2 2 (by decide)) (h.1 115 (by decide)) (h.1 116 (by decide)))
theorem fM3.a (h : fM3 M M') : aC M M' := fun k hk => h.1 k (by intro z; simp at z; omega)
theorem mo_tl {M0 : zM} {x1 : Int} (hl : lIs M0 112 P R) (ho : lOk P R) (hw : isW u) (h7 : u.length ≤ 7) (hu : lw P R false u = u)
    (h : ∀ M' bf', mB M' bf' → bfR P R u bf' → fM3 M0 M' → Q 0 (SH, M', L)) :
    ∀ (n k : Nat) (Mk : zM) (bf : List (List Int × Nat)) (v4 v5 : zV), k + n = 64 → mB Mk bf → bfI P R u bf k → bfD bf → fM3 M0 Mk → zEx (d + 4) m_mo_turnsAll zb0 Q 46 ([zR 112, zI x1, zI (u.length : Int), zI (k : Int), v4, v5], [], SH, Mk, L) := by
  intro n
  induction n with
  | zero =>
    intro k Mk bf v4 v5 hk ht hi hD hf
    have hb := ht.2.1
    refine g_mo_turnsAll_46 ?_
    rw [ht.1, if_neg (by omega)]
    exact h Mk bf ht (bfI_e hi (by omega)) hf
  | succ n ih =>
    intro k Mk bf v4 v5 hk ht hi hD hf
    refine g_mo_turnsAll_46 ?_
    rw [ht.1]
    by_cases g : k < bf.length
    · rw [if_pos (by omega)]
      exact mo_tp (M0 := M0) (k := k) (x := bw bf k) (dk := bm bf k) hl ho hw h7 hu (fun M1 bf1 v5 t1 i1 D1 f1 => ih (k + 1) M1 bf1 _ v5 (by omega) t1 i1 D1 f1) u.length 0 Mk bf _ (by omega) ht hi hD g rfl (fun q hq => by omega) hf
    · rw [if_neg (by omega)]
      exact h Mk bf ht (bfI_e hi (by omega)) hf
theorem e_mo_turnsAll {w : Int} (hI : iM M P R ws tx hs kp ls rf) (g : wd ws w) (h7 : (gw ws w).length ≤ 7)
    (h : ∀ M' bf, mB M' bf → bfR P R (lw P R false (gw ws w)) bf → iM M' P R ws tx hs kp ls rf → aC M M' → Q 0 (SH, M', L)) : zEv (d + 4) m_mo_turnsAll [zR 112, zI w] (SH, M, L) Q := by
  obtain ⟨w1, w2, w3, w4, w5⟩ := hI.w g
  refine b_mo_turnsAll (g_mo_turnsAll_0 (e_mo_load hI g (Or.inl rfl) (fun M1 m1 I1 f1 => g_mo_turnsAll_10 ?_)))
  refine e_mo_takes (last := false) zk_128 (by decide) zk_131 (by decide) (by decide) (by decide) (by rw [zl_131]; omega) I1.l hI.lo m1 w3 (by omega) (fun M2 m2 f2 => g_mo_turnsAll_25 ?_)
  have hlW := lw_isW (P := P) (R := R) (last := false) w3
  have hll : (lw P R false (gw ws w)).length = (gw ws w).length := lw_len
  have c3 : cFr [112] M2 (zmu M2 112 33 0) := fun c hc => zmu_kf (by simpa using hc)
  have m3 : aIs (zmu M2 112 33 0) 131 (lw P R false (gw ws w)) := c3.arr m2 (by decide)
  have F1 : fM3 M M1 := fM3.c f1 (by simp)
  have F2 : fM3 M1 M2 := fM3.c f2 (by simp)
  have F3 : fM3 M2 (zmu M2 112 33 0) := ⟨fun k hk => c3 k (fun z => hk (by rw [List.mem_singleton.mp z]; decide)), fun j hj => zmu_j hj⟩
  have nbc := e_mo_numberOf (d := d + 2) (M := zmu M2 112 33 0) (L := L) (w := lw P R false (gw ws w)) (Q := fun x' w' => zEx (d + 4) m_mo_turnsAll zb0 Q 40 ([zR 112, zI w, zI ((gw ws w).length : Int), zN, zN, zN], [zI x', zR 112], w')) zk_131 m3 hlW (by omega)
  rw [hll] at nbc
  refine nbc (g_mo_turnsAll_40 ?_)
  have ht0 : mB (zmu M2 112 33 0) [] := ⟨by rw [zmu_s]; rfl, by simp, fun i hi => by simp at hi⟩
  have hA : bfA [] (lw P R false (gw ws w)) 0 = [(lw P R false (gw ws w), 0)] := rfl
  refine e_mo_finds (m := 0) ht0 (fun i hi => by simp at hi) hlW (by rw [hA]; simp) (fun M4 t4 f4 => g_mo_turnsAll_44 ?_)
  rw [hA] at t4
  have F4 : fM3 M M4 := F1.tr (F2.tr (F3.tr f4))
  have tl := mo_tl (d := d) (L := L) (Q := Q) (M0 := M4) (x1 := w) (u := lw P R false (gw ws w)) (F4.l hI.l) hI.lo hlW (by omega) (lw_lw hI.lo w3) (fun M5 bf5 t5 r5 f5 => h M5 bf5 t5 r5 ((F4.tr f5).i hI) (F4.tr f5).a) 64 0 M4 [(lw P R false (gw ws w), 0)] zN zN (by omega) t4 bfI_0 (fun i hi => by
    have : i = 0 := by simpa using hi
    rw [this]; exact Nat.le_refl _) fM3.r0
  rw [hll] at tl
  exact tl
theorem c_mo_turned {w : Int} (hI : iM M P R ws tx hs kp ls rf) (h : ∀ M1 L1, jM M1 (opTurned P R ws tx hs kp ls rf w).1 → aC M M1 → Q (opTurned P R ws tx hs kp ls rf w).2 (SH, M1, L1)) : zEv (d + 9) m_mo_turned [zR 112, zI w] (SH, M, L) Q := by
  unfold opTurned at h
  refine b_mo_turned (g_mo_turned_0 (e_mo_isWord hI.s (g_mo_turned_5 ?_)))
  by_cases g : wd ws w
  · obtain ⟨w1, w2, w3, w4, w5⟩ := hI.w g
    have g0 := g.1
    rw [if_pos g] at h
    rw [if_pos g, if_neg (by decide), zck_t (by omega), w1]
    by_cases q : 7 < (gw ws w).length
    · rw [if_pos q] at h
      rw [if_pos (by omega)]
      exact e_mo_noI (k := 6) hI (by omega) (fun M1 I f => g_mo_turned_31 (h M1 L I f))
    · rw [if_neg q] at h
      rw [if_neg (by omega)]
      refine e_mo_turnsAll (d := d + 4) hI g (by omega) (fun M1 bf t1 r1 I1 f1 => g_mo_turned_37 ?_)
      rw [t1.1, ← (bfl_p r1).length_eq]
      exact h M1 L I1 f1
  · rw [if_neg g] at h
    rw [if_neg g, if_pos rfl]
    exact e_mo_noI (k := 1) hI (by omega) (fun M1 I f => g_mo_turned_13 (h M1 L I f))
theorem mo_ap {x1 x2 x3 : Int} {y : List Int} (ht : mB M bf) (hW : ∀ i, i < bf.length → isW (bw bf i) ∧ (bw bf i).length = y.length) (hy : isW y) (h1 : ∀ i, i < bf.length → bw bf i = y → Q (bm bf i : Int) (SH, M, L)) (h2 : (∀ i, i < bf.length → bw bf i ≠ y) → Q (-9) (SH, M, L)) :
    ∀ (n j : Nat), j + n = bf.length → (∀ i, i < j → bw bf i ≠ y) → zEx (d + 9) m_mo_apart zb0 Q 113 ([zR 112, zI x1, zI x2, zI x3, zI (nb y : Int), zI (j : Int)], [], SH, M, L) := by
  have hb := ht.2.1
  intro n
  induction n with
  | zero =>
    intro j hj h3
    refine g_mo_apart_113 ?_
    rw [ht.1, if_neg (by omega)]
    exact h2 (fun i hi => h3 i (by omega))
  | succ n ih =>
    intro j hj h3
    refine g_mo_apart_113 ?_
    have hWj := hW j (by omega)
    have hi := nb_inj hWj.1 hy hWj.2
    rw [ht.1, if_pos (by omega), zck_t (by omega), Int.toNat_natCast, (ht.2.2 j (by omega)).1]
    by_cases e : bw bf j = y
    · rw [if_pos (by rw [e]), zck_t (by omega), (ht.2.2 j (by omega)).2]
      exact h1 j (by omega) e
    · rw [if_neg (fun z => e (hi.mp (by omega))), zwr_id (by omega) (by omega), show ((j : Int) + 1) = ((j + 1 : Nat) : Int) by omega]
      refine ih (j + 1) (by omega) (fun i hi => ?_)
      by_cases q : i = j
      · rw [q]; exact e
      · exact h3 i (by omega)
theorem c_mo_apart {u v : Int} (hI : iM M P R ws tx hs kp ls rf) (h : ∀ M1 L1, jM M1 (opApart P R ws tx hs kp ls rf u v).1 → aC M M1 → Q (opApart P R ws tx hs kp ls rf u v).2 (SH, M1, L1)) : zEv (d + 9) m_mo_apart [zR 112, zI u, zI v] (SH, M, L) Q := by
  unfold opApart at h
  refine b_mo_apart (g_mo_apart_0 (e_mo_isWord hI.s (g_mo_apart_5 ?_)))
  have no1 : ¬ (wd ws u ∧ wd ws v) → zEv (d + 8) m_mo_no [zR 112, zI (-1)] (SH, M, L) (fun x w' => zEx (d + 9) m_mo_apart zb0 Q 21 ([zR 112, zI u, zI v, zN, zN, zN], [zI x], w')) := fun z => by
    rw [if_neg z] at h
    exact e_mo_noI (k := 1) hI (by omega) (fun M1 I f => g_mo_apart_21 (h M1 L I f))
  by_cases ga : wd ws u
  · rw [if_pos ga, if_neg (by decide)]
    refine e_mo_isWord hI.s (g_mo_apart_13 ?_)
    by_cases gb : wd ws v
    · obtain ⟨w1, w2, w3, w4, w5⟩ := hI.w ga
      obtain ⟨v1, v2, v3, v4, v5⟩ := hI.w gb
      have ga0 := ga.1
      have gb0 := gb.1
      rw [if_pos ⟨ga, gb⟩] at h
      have no6 : 7 < (gw ws u).length ∨ 7 < (gw ws v).length → zEv (d + 8) m_mo_no [zR 112, zI (-6)] (SH, M, L) (fun x w' => zEx (d + 9) m_mo_apart zb0 Q 50 ([zR 112, zI u, zI v, zN, zN, zN], [zI x], w')) := fun z => by
        rw [if_pos z] at h
        exact e_mo_noI (k := 6) hI (by omega) (fun M1 I f => g_mo_apart_50 (h M1 L I f))
      rw [if_pos gb, if_neg (by decide), zck_t (by omega), w1]
      by_cases q1 : 7 < (gw ws u).length
      · rw [if_pos (by omega)]
        exact no6 (Or.inl q1)
      · rw [if_neg (by omega), zck_t (by omega), v1]
        by_cases q2 : 7 < (gw ws v).length
        · rw [if_pos (by omega)]
          exact no6 (Or.inr q2)
        · rw [if_neg (by omega), zck_t (by omega), zck_t (by omega)]
          rw [if_neg (by omega)] at h
          have hvl : (lw P R false (gw ws v)).length = (gw ws v).length := lw_len
          have hul : (lw P R false (gw ws u)).length = (gw ws u).length := lw_len
          have huW := lw_isW (P := P) (R := R) (last := false) w3
          have hvW := lw_isW (P := P) (R := R) (last := false) v3
          by_cases q3 : (gw ws u).length = (gw ws v).length
          · rw [if_pos (by omega)]
            refine e_mo_turnsAll (d := d + 4) hI ga (by omega) (fun M1 bf t1 r1 I1 f1 => g_mo_apart_74 ?_)
            refine e_mo_load I1 gb (Or.inr rfl) (fun M2 m2 I2 f2 => g_mo_apart_84 ?_)
            refine e_mo_takes (d := d + 5) (last := false) zk_129 (by decide) zk_131 (by decide) (by decide) (by decide) (by rw [zl_131]; omega) I2.l hI.lo m2 v3 (by omega) (fun M3 m3 f3 => g_mo_apart_99 ?_)
            have I3 : iM M3 P R ws tx hs kp ls rf := I2.fr f3 (by decide)
            have A3 : aC M M3 := (f1.tr (f2.aC (by decide))).tr (f3.aC (by decide))
            have t3 : mB M3 bf := t1.of (fun k hk => by rw [f3 k (by intro z; simp at hk z; omega), f2 k (by intro z; simp at hk z; omega)])
            have nbc := e_mo_numberOf (d := d + 7) (M := M3) (L := L) (w := lw P R false (gw ws v)) (Q := fun x' w' => zEx (d + 9) m_mo_apart zb0 Q 108 ([zR 112, zI u, zI v, zI ((gw ws v).length : Int), zN, zN], [zI x'], w')) zk_131 m3 hvW (by omega)
            rw [hvl] at nbc
            refine nbc (g_mo_apart_108 ?_)
            refine mo_ap t3 (y := lw P R false (gw ws v)) (fun i hi => ?_) hvW (fun i hi e => ?_) (fun hno => ?_) bf.length 0 (by omega) (fun i hi => by omega)
            · have := rch_W huW (r1.1 _ (getD_mem (x := zbf0) hi)).1
              exact ⟨this.1, by rw [this.2]; omega⟩
            · have e2 : apd P R (lw P R false (gw ws u)) (lw P R false (gw ws v)) = (bm bf i : Int) := apd_y r1 (by rw [← e]; exact getD_mem hi)
              rw [e2] at h
              exact h M3 L I3 A3
            · have e2 : apd P R (lw P R false (gw ws u)) (lw P R false (gw ws v)) = -9 := apd_n r1 (fun z => by
                obtain ⟨i, i1, i2⟩ := bw_in.mp z
                exact hno i i1 i2)
              rw [e2] at h
              exact h M3 L I3 A3
          · rw [if_neg (by omega)]
            have e2 : apd P R (lw P R false (gw ws u)) (lw P R false (gw ws v)) = -9 := by
              refine dif_neg (fun hx => ?_)
              obtain ⟨m, h1⟩ := hx
              unfold bfl at h1
              by_cases gx : ∃ bf, bfR P R (lw P R false (gw ws u)) bf
              · rw [dif_pos gx] at h1
                have := rch_W huW ((Classical.choose_spec gx).1 _ h1).1
                have this : (lw P R false (gw ws v)).length = _ := this.2
                omega
              · rw [dif_neg gx] at h1
                simp at h1
            rw [e2] at h
            exact h M L hI aC.r0
    · rw [if_neg gb, if_pos rfl]
      exact no1 (fun z => gb z.2)
  · rw [if_neg ga, if_pos rfl]
    exact no1 (fun z => ga z.1)
end MU
