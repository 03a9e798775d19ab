/-! turned, turn, apart: by the class -/
noncomputable def bfl (P R : Nat → Nat) (u : List Int) : List (List Int × Nat) := @dite _ (∃ bf, bfR P R u bf) (Classical.propDecidable _) (fun h => Classical.choose h) (fun _ => [])
noncomputable def sol (P R : Nat → Nat) (u : List Int) : List Int := ((bfl P R u).map cdi).mergeSort (fun a b => decide (a ≤ b))
noncomputable def kw (P R : Nat → Nat) (u : List Int) (k : Nat) : List Int := @dite _ (∃ y m, (y, m) ∈ bfl P R u ∧ (cod y : Int) = (sol P R u).getD k 0) (Classical.propDecidable _) (fun h => Classical.choose h) (fun _ => [])
noncomputable def apd (P R : Nat → Nat) (u v : List Int) : Int := @dite _ (∃ m, (v, m) ∈ bfl P R u) (Classical.propDecidable _) (fun h => ((Classical.choose h : Nat) : Int)) (fun _ => -9)
noncomputable def opTurned (P R : Nat → Nat) (ws : List (List Int)) (tx : List Int) (hs : List zLw) (kp : zKp) (ls : Nat → Option (List Int)) (rf : Nat → Int) (w : Int) : zSt × Int := if wd ws w then (if 7 < (gw ws w).length then sNo P R ws tx hs kp ls rf 6 else sOk P R ws tx hs kp ls rf ((bfl P R (lw P R false (gw ws w))).length : Int)) else sNo P R ws tx hs kp ls rf 1
noncomputable def opTurn (P R : Nat → Nat) (ws : List (List Int)) (tx : List Int) (hs : List zLw) (kp : zKp) (ls : Nat → Option (List Int)) (rf : Nat → Int) (w k i : Int) : zSt × Int := if wd ws w then (if k < 0 ∨ i < 0 then sNo P R ws tx hs kp ls rf 4 else if 7 < (gw ws w).length then sNo P R ws tx hs kp ls rf 6 else sOk P R ws tx hs kp ls rf (if k < ((bfl P R (lw P R false (gw ws w))).length : Int) then rget (kw P R (lw P R false (gw ws w)) k.toNat) i else -9)) else sNo P R ws tx hs kp ls rf 1
noncomputable def opApart (P R : Nat → Nat) (ws : List (List Int)) (tx : List Int) (hs : List zLw) (kp : zKp) (ls : Nat → Option (List Int)) (rf : Nat → Int) (u v : Int) : zSt × Int := if wd ws u ∧ wd ws v then (if 7 < (gw ws u).length ∨ 7 < (gw ws v).length then sNo P R ws tx hs kp ls rf 6 else sOk P R ws tx hs kp ls rf (apd P R (lw P R false (gw ws u)) (lw P R false (gw ws v)))) else sNo P R ws tx hs kp ls rf 1
section TN
variable {P R : Nat → Nat} {u v y : List Int} {bf : List (List Int × Nat)} {so so' : List Int} {k m : Nat}
theorem bfl_p (h : bfR P R u bf) : (bfl P R u).Perm bf := by
  have hx : ∃ bf, bfR P R u bf := ⟨bf, h⟩
  have e : bfl P R u = Classical.choose hx := dif_pos hx
  rw [e]
  exact bfR_perm (Classical.choose_spec hx) h
theorem sorted_eq : ∀ {l l' : List Int}, l.Perm l' → l.Pairwise (fun a b => a ≤ b) → l'.Pairwise (fun a b => a ≤ b) → l = l'
  | [], l', h, _, _ => by rw [h.nil_eq]
  | a :: l, [], h, _, _ => by have := h.length_eq; simp at this
  | a :: l, b :: l', h, h1, h2 => by
    have hab : a = b := by
      have q1 : a ∈ b :: l' := h.mem_iff.mp (List.mem_cons_self ..)
      have q2 : b ∈ a :: l := h.mem_iff.mpr (List.mem_cons_self ..)
      have k1 := (List.pairwise_cons.mp h1).1
      have k2 := (List.pairwise_cons.mp h2).1
      rcases List.mem_cons.mp q1 with z | z
      · exact z
      · rcases List.mem_cons.mp q2 with y | y
        · exact y.symm
        · have := k1 b y
          have := k2 a z
          omega
    subst hab
    rw [sorted_eq (List.Perm.cons_inv h) (List.pairwise_cons.mp h1).2 (List.pairwise_cons.mp h2).2]
theorem sol_s : (sol P R u).Pairwise (fun a b => a ≤ b) := by
  have := List.pairwise_mergeSort (le := fun a b : Int => decide (a ≤ b)) (fun a b c h1 h2 => by
    have h1 := of_decide_eq_true h1
    have h2 := of_decide_eq_true h2
    exact decide_eq_true (Int.le_trans h1 h2)) (fun a b => by
    rcases Int.le_total a b with h | h
    · simp [h]
    · simp [h]) ((bfl P R u).map cdi)
  exact this.imp (fun h => of_decide_eq_true h)
theorem sol_eq (h : bfR P R u bf) (h1 : so.Perm (bf.map cdi)) (h2 : so.Pairwise (fun a b => a ≤ b)) : so = sol P R u := by
  refine sorted_eq (h1.trans ?_) h2 sol_s
  exact ((bfl_p h).symm.map cdi).trans (List.mergeSort_perm _ _).symm
theorem kw_eq (hu : isW u) (h : bfR P R u bf) (hm : (y, m) ∈ bf) (he : (cod y : Int) = (sol P R u).getD k 0) : kw P R u k = y := by
  have hx : ∃ y m, (y, m) ∈ bfl P R u ∧ (cod y : Int) = (sol P R u).getD k 0 := ⟨y, m, (bfl_p h).mem_iff.mpr hm, he⟩
  have e : kw P R u k = Classical.choose hx := dif_pos hx
  obtain ⟨m', h1, h2⟩ := Classical.choose_spec hx
  rw [← e] at h1 h2
  have h1' := h.1 _ ((bfl_p h).mem_iff.mp h1)
  have hm' := h.1 _ hm
  exact cod_inj (rch_W hu h1'.1).1 (rch_W hu hm'.1).1 (by omega)
theorem apd_y (h : bfR P R u bf) (hm : (v, m) ∈ bf) : apd P R u v = (m : Int) := by
  have hx : ∃ m, (v, m) ∈ bfl P R u := ⟨m, (bfl_p h).mem_iff.mpr hm⟩
  have e : apd P R u v = ((Classical.choose hx : Nat) : Int) := dif_pos hx
  have h1 := (bfl_p h).mem_iff.mp (Classical.choose_spec hx)
  rw [e, bfI_mem h.2.2 h1 hm]
theorem apd_n (h : bfR P R u bf) (hm : ¬ v ∈ bf.map (fun p => p.1)) : apd P R u v = -9 := by
  refine dif_neg (fun hx => ?_)
  obtain ⟨m, h1⟩ := hx
  exact hm (List.mem_map.mpr ⟨_, (bfl_p h).mem_iff.mp h1, rfl⟩)
end TN
section TC
variable {d : Nat} {M M' L : zM} {Q : Int → zW → Prop} {P R : Nat → Nat} {ws : List (List Int)} {tx : List Int} {hs : List zLw} {kp : zKp} {ls : Nat → Option (List Int)} {rf : Nat → Int} {u w : List Int} {r k : Nat} {bf : List (List Int × Nat)}
theorem e_lt_tooLong {w : Int} (hI : iC M P R ws tx hs kp ls rf) (g : wd ws w) (h : Q (if 7 < (gw ws w).length then 1 else 0) (SH, M, L)) : zEv (d + 2) m_lt_tooLongToTurn [zR 0, zI w] (SH, M, L) Q := by
  obtain ⟨za, ru, hw, h14, h64⟩ := hI.w g
  refine b_lt_tooLongToTurn (g_lt_tooLongToTurn_0 (e_sh_rowI hI g ?_))
  rw [Int.toNat_natCast]
  refine g_lt_tooLongToTurn_8 za (e_ro_size za ru (g_lt_tooLongToTurn_11 ?_))
  by_cases q : 7 < (gw ws w).length
  · rw [if_pos q] at h
    rw [if_pos (by omega)]; exact h
  · rw [if_neg q] at h
    rw [if_neg (by omega)]; exact h
theorem c_lt_turned {w : Int} (hI : iC M P R ws tx hs kp ls rf) (h : ∀ M1 L1, jC M1 (opTurned P R ws tx hs kp ls rf w).1 → aM M M1 → Q (opTurned P R ws tx hs kp ls rf w).2 (SH, M1, L1)) : zEv (d + 9) m_lt_turned [zR 0, zI w] (SH, M, L) Q := by
  unfold opTurned at h
  refine b_lt_turned (g_lt_turned_0 (e_lt_noWord hI.s (g_lt_turned_5 ?_)))
  by_cases g : wd ws w
  · obtain ⟨za, ru, hw, h14, h64⟩ := hI.w g
    rw [if_pos g] at h
    rw [if_pos g, if_pos rfl]
    refine e_lt_tooLong hI g (g_lt_turned_19 ?_)
    by_cases q : 7 < (gw ws w).length
    · rw [if_pos q] at h
      rw [if_pos q, if_neg (by decide)]
      exact e_lt_no (k := 6) hI (by omega) (fun M1 I f => g_lt_turned_28 (h M1 L I f))
    · rw [if_neg q] at h
      rw [if_neg q, if_pos rfl]
      refine e_sh_rowI hI g ?_
      rw [Int.toNat_natCast]
      refine g_lt_turned_41 za (e_tu_explore (d := d + 1) hI za h64 ru hw (by omega) (fun M1 bf x1 I1 f1 => g_lt_turned_44 ?_))
      refine b_tu_found (g_tu_found_0 (g_lt_turned_51 ?_))
      obtain ⟨so, x1, x2, x3, x4, x5, x6, x7, x8, x9, x10, x11, x12⟩ := x1
      rw [x7.1, ← (bfl_p x5).length_eq]
      exact h M1 L I1 (f1.aM (by decide))
  · rw [if_neg g] at h
    rw [if_neg g, if_neg (by decide)]
    exact e_lt_no (k := 1) hI (by omega) (fun M1 I f => g_lt_turned_13 (h M1 L I f))
theorem c_lt_turn {w k i : Int} (hI : iC M P R ws tx hs kp ls rf) (h : ∀ M1 L1, jC M1 (opTurn P R ws tx hs kp ls rf w k i).1 → aM M M1 → Q (opTurn P R ws tx hs kp ls rf w k i).2 (SH, M1, L1)) : zEv (d + 9) m_lt_turn [zR 0, zI w, zI k, zI i] (SH, M, L) Q := by
  unfold opTurn at h
  refine b_lt_turn (g_lt_turn_0 (e_lt_noWord hI.s (g_lt_turn_5 ?_)))
  by_cases g : wd ws w
  · obtain ⟨za, ru, hw, h14, h64⟩ := hI.w g
    rw [if_pos g] at h
    rw [if_pos g, if_pos rfl]
    have low : k < 0 ∨ i < 0 → zEv (d + 8) m_lt_refuse [zR 0, zI (-4)] (SH, M, L) (fun x w' => zEx (d + 9) m_lt_turn zb0 Q 28 ([zR 0, zI w, zI k, zI i], [zI x], w')) := fun z => by
      rw [if_pos z] at h
      exact e_lt_no (k := 4) hI (by omega) (fun M1 I f => g_lt_turn_28 (h M1 L I f))
    refine zif_c (fun z => low (Or.inl z)) (fun z1 => zif_c (fun z => low (Or.inr z)) (fun z2 => ?_))
    rw [if_neg (by omega)] at h
    refine e_lt_tooLong hI g (g_lt_turn_34 ?_)
    by_cases q : 7 < (gw ws w).length
    · rw [if_pos q] at h
      rw [if_pos q, if_neg (by decide)]
      exact e_lt_no (k := 6) hI (by omega) (fun M1 I f => g_lt_turn_43 (h M1 L I f))
    · rw [if_neg q] at h
      rw [if_neg q, if_pos rfl]
      refine e_sh_rowI hI g ?_
      rw [Int.toNat_natCast]
      refine g_lt_turn_56 za (e_tu_explore (d := d + 1) hI za h64 ru hw (by omega) (fun M1 bf x1 I1 f1 => g_lt_turn_59 ?_))
      obtain ⟨so, x1, x2, x3, x4, x5, x6, x7, x8, x9, x10, x11, x12⟩ := x1
      have hb := x7.2.1
      rw [(bfl_p x5).length_eq] at h
      refine b_tu_letterOf (g_tu_letterOf_0 ?_)
      rw [if_neg (by omega), x7.1]
      by_cases q2 : k < (bf.length : Int)
      · rw [if_pos q2] at h
        rw [if_pos q2, if_pos (by omega), zck_t (by omega), x12 k.toNat (by omega)]
        have hmem : so.getD k.toNat 0 ∈ bf.map cdi := x10.mem_iff.mp (getD_mem (by rw [x10.length_eq, List.length_map]; omega))
        obtain ⟨p, p1, p2⟩ := List.mem_map.mp hmem
        have hpW := rch_W x3 (x5.1 p p1).1
        have hs := sol_eq x5 x10 x11
        have ek : kw P R (lw P R false (gw ws w)) k.toNat = p.1 := kw_eq (m := p.2) x3 x5 p1 (by rw [← hs, ← p2]; rfl)
        rw [ek] at h
        rw [← p2]
        refine e_tu_decode (w := p.1) hpW.1 (by omega) (by rw [x8]; omega) (fun M2 a2 f2 => g_tu_letterOf_31 ?_)
        refine e_ro_get zRow_101 a2 (g_tu_letterOf_39 (g_lt_turn_68 ?_))
        exact h M2 L (I1.fr f2 (by decide)) ((f1.aM (by decide)).tr (f2.aM (by decide)))
      · rw [if_neg q2] at h
        rw [if_neg q2]
        exact g_lt_turn_68 (h M1 L I1 (f1.aM (by decide)))
  · rw [if_neg g] at h
    rw [if_neg g, if_neg (by decide)]
    exact e_lt_no (k := 1) hI (by omega) (fun M1 I f => g_lt_turn_13 (h M1 L I f))
theorem c_lt_apart {u v : Int} (hI : iC M P R ws tx hs kp ls rf) (h : ∀ M1 L1, jC M1 (opApart P R ws tx hs kp ls rf u v).1 → aM M M1 → Q (opApart P R ws tx hs kp ls rf u v).2 (SH, M1, L1)) : zEv (d + 9) m_lt_apart [zR 0, zI u, zI v] (SH, M, L) Q := by
  unfold opApart at h
  refine b_lt_apart (g_lt_apart_0 (e_lt_noWord hI.s (g_lt_apart_5 ?_)))
  have no1 : ¬ (wd ws u ∧ wd ws v) → zEv (d + 8) m_lt_refuse [zR 0, zI (-1)] (SH, M, L) (fun x w' => zEx (d + 9) m_lt_apart zb0 Q 21 ([zR 0, zI u, zI v], [zI x], w')) := fun z => by
    rw [if_neg z] at h
    exact e_lt_no (k := 1) hI (by omega) (fun M1 I f => g_lt_apart_21 (h M1 L I f))
  by_cases ga : wd ws u
  · rw [if_pos ga, if_pos rfl]
    refine e_lt_noWord hI.s (g_lt_apart_13 ?_)
    by_cases gb : wd ws v
    · obtain ⟨za, ru, hw, h14, h64⟩ := hI.w ga
      obtain ⟨zb, rv, hv, v14, v64⟩ := hI.w gb
      rw [if_pos gb, if_pos rfl]
      rw [if_pos ⟨ga, gb⟩] at h
      have no6 : 7 < (gw ws u).length ∨ 7 < (gw ws v).length → zEv (d + 8) m_lt_refuse [zR 0, zI (-6)] (SH, M, L) (fun x w' => zEx (d + 9) m_lt_apart zb0 Q 44 ([zR 0, zI u, zI v], [zI x], w')) := fun z => by
        rw [if_pos z] at h
        exact e_lt_no (k := 6) hI (by omega) (fun M1 I f => g_lt_apart_44 (h M1 L I f))
      refine e_lt_tooLong hI ga (g_lt_apart_27 ?_)
      by_cases q1 : 7 < (gw ws u).length
      · rw [if_pos q1, if_neg (by decide)]
        exact no6 (Or.inl q1)
      · rw [if_neg q1, if_pos rfl]
        refine e_lt_tooLong hI gb (g_lt_apart_35 ?_)
        by_cases q2 : 7 < (gw ws v).length
        · rw [if_pos q2, if_neg (by decide)]
          exact no6 (Or.inr q2)
        · rw [if_neg q2, if_pos rfl]
          rw [if_neg (by omega)] at h
          refine e_sh_rowI hI ga ?_
          rw [Int.toNat_natCast]
          refine g_lt_apart_57 za (e_tu_explore (d := d + 1) hI za h64 ru hw (by omega) (fun M1 bf x1 I1 f1 => g_lt_apart_60 ?_))
          refine e_sh_rowI I1 gb ?_
          rw [Int.toNat_natCast]
          obtain ⟨zb1, rv1, _, _, _⟩ := I1.w gb
          refine g_lt_apart_72 zb (b_tu_movesTo (g_tu_movesTo_0 zb ?_))
          have hvl : (lw P R false (gw ws v)).length = (gw ws v).length := lw_len
          refine e_be_arrange (last := false) (d := d + 2) zb zRow_103 (by omega) (by decide) rv1 hv I1.l hI.lo (by omega) (by rw [zl104]; omega) (fun M2 a2 f2 => g_tu_movesTo_13 zb ?_)
          refine e_tu_codeOf zRow_103 a2 (lw_isW hv) (by omega) (g_tu_movesTo_21 zb ?_)
          obtain ⟨so, x1, x2, x3, x4, x5, x6, x7, x8, x9, x10, x11, x12⟩ := x1
          have t2 : tB M2 bf := x7.of (fun k hk => f2 k (by intro z; simp at hk z; omega))
          have hb := t2.2.1
          have hW : ∀ i, i < bf.length → isW (bw bf i) := fun i hi => (rch_W x3 (x5.1 _ (getD_mem hi)).1).1
          have I2 : iC M2 P R ws tx hs kp ls rf := I1.fr f2 (by decide)
          have A2 : aM M M2 := (f1.aM (by decide)).tr (f2.aM (by decide))
          refine e_tu_find t2 (fun i hi e => g_tu_movesTo_24 zb ?_) (fun hno => g_tu_movesTo_24 zb ?_)
          · rw [if_neg (by omega), zck_t (by omega), Int.toNat_natCast, (t2.2.2 i hi).2]
            have e1 : bw bf i = lw P R false (gw ws v) := cod_inj (hW i hi) (lw_isW hv) e
            have e2 : apd P R (lw P R false (gw ws u)) (lw P R false (gw ws v)) = (bm bf i : Int) := apd_y x5 (by rw [← e1]; exact getD_mem hi)
            rw [e2] at h
            exact g_lt_apart_75 (h M2 L I2 A2)
          · rw [if_pos (by decide)]
            have e2 : apd P R (lw P R false (gw ws u)) (lw P R false (gw ws v)) = -9 := apd_n x5 (fun z => by
              obtain ⟨i, i1, i2⟩ := bw_in.mp z
              exact hno i i1 (by rw [i2]))
            rw [e2] at h
            exact g_lt_apart_75 (h M2 L I2 A2)
    · rw [if_neg gb, if_neg (by decide)]
      exact no1 (fun z => gb z.2)
  · rw [if_neg ga, if_neg (by decide)]
    exact no1 (fun z => ga z.1)
end TC
