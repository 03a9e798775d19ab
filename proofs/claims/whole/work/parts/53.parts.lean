/-! the reference: roots, parts -/
section RB
variable {d : Nat} {M M' L : zM} {Q : Int → zW → Prop} {P R : Nat → Nat} {ws : List (List Int)} {tx : List Int} {hs : List zLw} {kp : zKp} {ls : Nat → Option (List Int)} {rf : Nat → Int}
theorem rpt_c {k : Nat} {v : List Int} : rpt (k + 1) v = v ++ rpt k v := by unfold rpt; rw [List.replicate_succ, List.flatten_cons]
theorem aIs_pre {r : Nat} {u v : List Int} (h : aIs M r (u ++ v)) : aIs M r u := ⟨fun j hj => by rw [h.1 j (by rw [List.length_append]; omega), getD_app_l hj], by have := h.2; rw [List.length_append] at this; omega⟩
theorem rpt_at {t j : Nat} {s : List Int} (ht : 1 ≤ t) (hj : j < s.length) : (rpt t s).getD j 0 = s.getD j 0 := by
  obtain ⟨t', rfl⟩ : ∃ t', t = t' + 1 := ⟨t - 1, by omega⟩
  rw [rpt_c, getD_app_l hj]
theorem mo_isRoot_in {w k : Int} {s : List Int} {t : Nat} {M0 : zM} (ht : 1 ≤ t) (hts : (t + 1) * s.length ≤ 14) (h : ∀ M', aIs M' 129 (rpt (t + 1) s) → cFr [129] M0 M' → zEx (d + 5) m_mo_isRoot zb0 Q 3 ([zR 112, zI w, zI k, zI (s.length : Int), zI (zwr ((t : Int) + 1)), zI (s.length : Int)], [], SH, M', L)) :
    ∀ (n p : Nat) (Mk : zM), p + n = s.length → aIs Mk 129 (rpt t s ++ s.take p) → cFr [129] M0 Mk → zEx (d + 5) m_mo_isRoot zb0 Q 12 ([zR 112, zI w, zI k, zI (s.length : Int), zI (t : Int), zI (p : Int)], [], SH, Mk, L) := by
  have hrl := rpt_len (k := t) (v := s)
  have e1 : (t + 1) * s.length = t * s.length + s.length := by rw [Nat.add_mul, Nat.one_mul]
  intro n
  induction n with
  | zero =>
    intro p Mk hp hu hf
    refine g_mo_isRoot_12 ?_
    rw [if_neg (by omega)]
    rw [List.take_of_length_le (by omega), ← rpt_s] at hu
    rw [show (p : Int) = (s.length : Int) by omega]
    exact h Mk hu hf
  | succ n ih =>
    intro p Mk hp hu hf
    refine g_mo_isRoot_12 ?_
    have em : (s.length : Int) * (t : Int) = ((t * s.length : Nat) : Int) := by rw [Int.natCast_mul, Int.mul_comm]
    rw [em]
    simp (disch := omega) only [zck_t, if_pos, if_neg, if_true, if_false, zwr_id, Int.toNat_natCast]
    rw [show (((t * s.length : Nat) : Int) + (p : Int)).toNat = t * s.length + p by omega, show ((p : Int) + 1) = ((p + 1 : Nat) : Int) by omega]
    have hpl : p < (rpt t s).length := by
      have : s.length ≤ t * s.length := Nat.le_mul_of_pos_left _ (by omega)
      omega
    have hv : Mk 129 p = s.getD p 0 := by rw [hu.1 p (by rw [List.length_append]; omega), getD_app_l hpl, rpt_at ht (by omega)]
    refine ih (p + 1) _ (by omega) ⟨fun j hj => ?_, ?_⟩ (fun c hc => ?_)
    · rw [take_succ_getD (by omega), ← List.append_assoc, getD_snoc, List.length_append, List.length_take]
      by_cases e : j = t * s.length + p
      · rw [e, zmu_s, hv, if_neg (by omega), if_pos (by omega)]
      · rw [List.length_append, List.length_take] at hj
        rw [zmu_j e, if_pos (by omega)]
        exact hu.1 j (by rw [List.length_append, List.length_take]; omega)
    · rw [zl_129, List.length_append, List.length_take]; omega
    · rw [zmu_kf (by simpa using hc)]; exact hf c hc
theorem mo_isRoot_out {w : Int} {k : Nat} {s : List Int} {M0 : zM} (hk : k ≤ 14) (hks : k * s.length ≤ 14) (h : ∀ (M' : zM) (v5 : zV), aIs M' 129 (rpt k s) → cFr [129] M0 M' → zEv (d + 4) m_mo_loads [zR 112, zR 128, zI 0, zI w] (SH, M', L) (fun x w_1 => zEx (d + 5) m_mo_isRoot zb0 Q 59 ([zR 112, zI w, zI (k : Int), zI (s.length : Int), zI (k : Int), v5], [zI x], w_1))) :
    ∀ (n t : Nat) (Mk : zM) (v5 : zV), t + n = k → 1 ≤ t → aIs Mk 129 (rpt t s) → cFr [129] M0 Mk → zEx (d + 5) m_mo_isRoot zb0 Q 3 ([zR 112, zI w, zI (k : Int), zI (s.length : Int), zI (t : Int), v5], [], SH, Mk, L) := by
  intro n
  induction n with
  | zero =>
    intro t Mk v5 ht h1 hu hf
    have ht : t = k := by omega
    subst ht
    refine g_mo_isRoot_3 ?_
    rw [if_neg (by omega)]
    exact h Mk v5 hu hf
  | succ n ih =>
    intro t Mk v5 ht h1 hu hf
    refine g_mo_isRoot_3 ?_
    rw [if_pos (by omega)]
    have hmono : (t + 1) * s.length ≤ k * s.length := Nat.mul_le_mul_right _ (by omega)
    refine mo_isRoot_in h1 (by omega) (fun M1 m1 f1 => ?_) s.length 0 Mk (by omega) (by simpa using hu) cFr.rf
    rw [zwr_id (by omega) (by omega), show ((t : Int) + 1) = ((t + 1 : Nat) : Int) by omega]
    exact ih (t + 1) M1 _ (by omega) (by omega) m1 (hf.tr f1)
theorem e_mo_isRoot {w : Int} {k : Nat} {s : List Int} (hI : iM M P R ws tx hs kp ls rf) (g : wd ws w) (hk1 : 1 ≤ k) (hk : k ≤ 14) (hks : k * s.length = (gw ws w).length) (hsw : isW s) (hs1 : aIs M 129 s) (h : ∀ M', aIs M' 129 s → iM M' P R ws tx hs kp ls rf → aC M M' → Q (if lw P R false (gw ws w) = lw P R false (rpt k s) then 1 else 0) (SH, M', L)) : zEv (d + 5) m_mo_isRoot [zR 112, zI w, zI (k : Int), zI (s.length : Int)] (SH, M, L) Q := by
  obtain ⟨w1, w2, w3, w4, w5⟩ := hI.w g
  have hr1 : rpt 1 s = s := by unfold rpt; simp
  refine b_mo_isRoot (g_mo_isRoot_0 (mo_isRoot_out (s := s) hk (by omega) (fun M1 v5 m1 f1 => ?_) (k - 1) 1 M zN (by omega) (by omega) (by rw [hr1]; exact hs1) cFr.rf))
  have J1 := hI.cx f1 (by decide)
  have hrl := rpt_len (k := k) (v := s)
  refine e_mo_load J1.1 g (Or.inl rfl) (fun M2 m2 I2 f2 => g_mo_isRoot_59 ?_)
  have m1' := f2.arr m1 (by decide)
  obtain ⟨w1', _⟩ := I2.w g
  rw [w1', zck_t (by omega)]
  refine e_mo_areAlike zk_128 (by decide) zk_129 (by decide) (by decide) I2.l hI.lo m2 m1' w3 (rpt_isW hsw) (by omega) (by omega) (fun M3 f3 => g_mo_isRoot_78 ?_)
  have J3 := I2.cx f3 (by decide)
  obtain ⟨k', rfl⟩ : ∃ k', k = k' + 1 := ⟨k - 1, by omega⟩
  have m3 := f3.arr m1' (by decide)
  have m3' : aIs M3 129 s := by rw [rpt_c] at m3; exact aIs_pre m3
  have e := h M3 m3' J3.1 ((J1.2.tr (f2.aC (by decide))).tr J3.2)
  by_cases c : lw P R false (gw ws w) = lw P R false (rpt (k' + 1) s)
  · rw [if_pos c] at e ⊢; exact e
  · rw [if_neg c] at e ⊢; exact e
theorem mo_root_loop {w i : Int} {M0 : zM} (hI0 : iM M0 P R ws tx hs kp ls rf) (g : wd ws w) (hi : -1 ≤ i) (h : ∀ (k : Nat) (M' : zM), rtK P R (gw ws w) k → iM M' P R ws tx hs kp ls rf → aC M0 M' → Q (if i = -1 then (k : Int) else rget (lw P R false (shr (gw ws w) k)) i) (SH, M', L)) :
    ∀ (k : Nat) (Mk : zM), 1 ≤ k → k ≤ (gw ws w).length → (∀ j, k < j → j ≤ (gw ws w).length → ¬ isPw P R (gw ws w) j) → iM Mk P R ws tx hs kp ls rf → aC M0 Mk →
      (¬ dvA (gw ws w) k → zEx (d + 7) m_mo_root zb0 Q 57 ([zR 112, zI w, zI i, zI (k : Int), zI (-9)], [], SH, Mk, L)) ∧ (dvA (gw ws w) k → aIs Mk 129 (shr (gw ws w) k) → zEx (d + 7) m_mo_root zb0 Q 57 ([zR 112, zI w, zI i, zI (k : Int), zI ((shr (gw ws w) k).length : Int)], [], SH, Mk, L)) := by
  obtain ⟨w1, w2, w3, w4, w5⟩ := hI0.w g
  intro k
  induction k with
  | zero => intro Mk h1; omega
  | succ k ih =>
    intro Mk hk1 hk2 hall I fa
    have down : ∀ (M1 : zM) (x4 : Int), ¬ isPw P R (gw ws w) (k + 1) → iM M1 P R ws tx hs kp ls rf → aC M0 M1 → zEv (d + 6) m_mo_rootBy [zR 112, zI w, zI (zwr (((k + 1 : Nat) : Int) + -1))] (SH, M1, L) (fun x w_1 => zEx (d + 7) m_mo_root zb0 Q 84 ([zR 112, zI w, zI i, zI (zwr (((k + 1 : Nat) : Int) + -1)), zI x4], [zI x], w_1)) := by
      intro M1 x4 hn I1 f1
      have hk0 : 1 ≤ k := by
        rcases Nat.eq_zero_or_pos k with z | z
        · subst z; exact absurd isPw_1 hn
        · exact z
      have hall2 : ∀ j, k < j → j ≤ (gw ws w).length → ¬ isPw P R (gw ws w) j := fun j h1 h2 => by
        by_cases z : j = k + 1
        · rw [z]; exact hn
        · exact hall j (by omega) h2
      rw [zwr_id (by omega) (by omega), show ((k + 1 : Nat) : Int) + -1 = (k : Int) by omega]
      refine e_mo_rootBy (d := d + 5) hk0 (by omega) I1 g (fun q M2 f2 => g_mo_root_84 ?_) (fun q M2 m2 f2 => g_mo_root_84 ?_)
      · have J := I1.cx f2 (by decide)
        exact (ih M2 hk0 (by omega) hall2 J.1 (f1.tr J.2)).1 q
      · have J := I1.cx f2 (by decide)
        exact (ih M2 hk0 (by omega) hall2 J.1 (f1.tr J.2)).2 q m2
    refine ⟨fun q => g_mo_root_57 ?_, fun q hs => g_mo_root_57 ?_⟩
    · rw [if_pos rfl]
      exact down Mk _ (fun z => q z.1) I fa
    · have hks := shr_len_eq w3 q
      have hsl : (shr (gw ws w) (k + 1)).length ≤ 14 := by
        have : (shr (gw ws w) (k + 1)).length ≤ (k + 1) * (shr (gw ws w) (k + 1)).length := Nat.le_mul_of_pos_left _ (by omega)
        omega
      rw [if_neg (by omega)]
      refine e_mo_isRoot (d := d + 1) I g hk1 (by omega) hks (shr_isW w3) hs (fun M2 m2 I2 f2 => g_mo_root_72 ?_)
      by_cases c : lw P R false (gw ws w) = lw P R false (rpt (k + 1) (shr (gw ws w) (k + 1)))
      · have hp : isPw P R (gw ws w) (k + 1) := ⟨q, c.symm⟩
        have hrt : rtK P R (gw ws w) (k + 1) := ⟨hk1, hk2, fun _ => hp, hall⟩
        rw [if_pos c, if_neg (by decide)]
        by_cases gi : i = -1
        · have e := h (k + 1) M2 hrt I2 (fa.tr f2)
          rw [if_pos gi] at e ⊢
          exact e
        · rw [if_neg gi]
          refine e_mo_takes (last := false) zk_129 (by decide) zk_131 (by decide) (by decide) (by decide) (by rw [zl_131]; omega) I2.l I.lo m2 (shr_isW w3) (by omega) (fun M3 m3 f3 => g_mo_root_111 ?_)
          have J := I2.cx f3 (by decide)
          have e := h (k + 1) M3 hrt J.1 ((fa.tr f2).tr J.2)
          rw [if_neg gi] at e
          have hll : (lw P R false (shr (gw ws w) (k + 1))).length = (shr (gw ws w) (k + 1)).length := lw_len
          by_cases g4 : i < ((shr (gw ws w) (k + 1)).length : Int)
          · rw [rget_in (by omega)] at e
            simp (disch := omega) only [zck_t, if_pos, if_neg, if_true, if_false, zwr_id, Int.toNat_natCast]
            rw [m3.1 _ (by omega)]
            exact e
          · rw [rget_out (by omega)] at e
            simp (disch := omega) only [zck_t, if_pos, if_neg, if_true, if_false, zwr_id, Int.toNat_natCast]
            exact e
      · rw [if_neg c, if_pos rfl]
        exact down M2 _ (fun z => c z.2.symm) I2 (fa.tr f2)
theorem c_mo_root {w i : Int} (hI : iM M P R ws tx hs kp ls rf) (h : ∀ M1 L1, jM M1 (opRoot P R ws tx hs kp ls rf w i).1 → aC M M1 → Q (opRoot P R ws tx hs kp ls rf w i).2 (SH, M1, L1)) : zEv (d + 9) m_mo_root [zR 112, zI w, zI i] (SH, M, L) Q := by
  unfold opRoot at h
  refine b_mo_root ?_
  (first | refine g_mo_root_0 ?_ | refine g_mo_root_5 ?_ | refine g_mo_root_13 ?_ | refine g_mo_root_25 ?_ | refine g_mo_root_41 ?_ | refine g_mo_root_55 ?_ | refine g_mo_root_57 ?_ | refine g_mo_root_72 ?_ | refine g_mo_root_84 ?_ | refine g_mo_root_111 ?_)
  refine e_mo_isWord hI.s ?_
  (first | refine g_mo_root_0 ?_ | refine g_mo_root_5 ?_ | refine g_mo_root_13 ?_ | refine g_mo_root_25 ?_ | refine g_mo_root_41 ?_ | refine g_mo_root_55 ?_ | refine g_mo_root_57 ?_ | refine g_mo_root_72 ?_ | refine g_mo_root_84 ?_ | refine g_mo_root_111 ?_)
  by_cases g : wd ws w
  · obtain ⟨w1, w2, w3, w4, w5⟩ := hI.w g
    rw [if_pos g] at h ⊢
    rw [if_neg (by decide)]
    by_cases g2 : i < -1
    · rw [if_pos g2] at h ⊢
      (refine e_mo_noI (k := 4) hI (by omega) (fun M1 I f => ?_); (first | refine g_mo_root_0 ?_ | refine g_mo_root_5 ?_ | refine g_mo_root_13 ?_ | refine g_mo_root_25 ?_ | refine g_mo_root_41 ?_ | refine g_mo_root_55 ?_ | refine g_mo_root_57 ?_ | refine g_mo_root_72 ?_ | refine g_mo_root_84 ?_ | refine g_mo_root_111 ?_); exact h M1 L I f)
    · rw [if_neg g2] at h ⊢
      rw [w1, zck_t (by omega)]
      by_cases g3 : gw ws w = []
      · rw [if_pos g3] at h
        rw [if_pos (by rw [g3]; rfl)]
        (refine e_mo_noI (k := 3) hI (by omega) (fun M1 I f => ?_); (first | refine g_mo_root_0 ?_ | refine g_mo_root_5 ?_ | refine g_mo_root_13 ?_ | refine g_mo_root_25 ?_ | refine g_mo_root_41 ?_ | refine g_mo_root_55 ?_ | refine g_mo_root_57 ?_ | refine g_mo_root_72 ?_ | refine g_mo_root_84 ?_ | refine g_mo_root_111 ?_); exact h M1 L I f)
      · have g0 := List.length_pos_iff.mpr g3
        rw [if_neg g3] at h
        rw [if_neg (by omega), zck_t (by omega)]
        have lp := mo_root_loop (d := d + 2) (Q := Q) (L := L) (w := w) (i := i) hI g (by omega) (fun k M2 hk I2 f2 => by
          have e := h M2 L I2 f2
          rw [rtN_is hk] at e
          exact e) (gw ws w).length
        refine e_mo_rootBy g0 w2 hI g (fun q M1 f1 => ?_) (fun q M1 m1 f1 => ?_)
        · (first | refine g_mo_root_0 ?_ | refine g_mo_root_5 ?_ | refine g_mo_root_13 ?_ | refine g_mo_root_25 ?_ | refine g_mo_root_41 ?_ | refine g_mo_root_55 ?_ | refine g_mo_root_57 ?_ | refine g_mo_root_72 ?_ | refine g_mo_root_84 ?_ | refine g_mo_root_111 ?_)
          have J := hI.cx f1 (by decide)
          exact (lp M1 g0 (Nat.le_refl _) (fun j h1 h2 => by omega) J.1 J.2).1 q
        · (first | refine g_mo_root_0 ?_ | refine g_mo_root_5 ?_ | refine g_mo_root_13 ?_ | refine g_mo_root_25 ?_ | refine g_mo_root_41 ?_ | refine g_mo_root_55 ?_ | refine g_mo_root_57 ?_ | refine g_mo_root_72 ?_ | refine g_mo_root_84 ?_ | refine g_mo_root_111 ?_)
          have J := hI.cx f1 (by decide)
          exact (lp M1 g0 (Nat.le_refl _) (fun j h1 h2 => by omega) J.1 J.2).2 q m1
  · rw [if_neg g] at h ⊢
    rw [if_pos rfl]
    (refine e_mo_noI (k := 1) hI (by omega) (fun M1 I f => ?_); (first | refine g_mo_root_0 ?_ | refine g_mo_root_5 ?_ | refine g_mo_root_13 ?_ | refine g_mo_root_25 ?_ | refine g_mo_root_41 ?_ | refine g_mo_root_55 ?_ | refine g_mo_root_57 ?_ | refine g_mo_root_72 ?_ | refine g_mo_root_84 ?_ | refine g_mo_root_111 ?_); exact h M1 L I f)
/-! parts -/
theorem mo_stands_loop {w : Int} (hI : iM M P R ws tx hs kp ls rf) (g : wd ws w) (h : Q (lbits (gw ws w) : Int) (SH, M, L)) :
    ∀ (n k : Nat), k + n = (gw ws w).length → zEx (d + 1) m_mo_stands zb0 Q 4 ([zR 112, zI w, zI (lbits ((gw ws w).take k) : Int), zI (k : Int)], [], SH, M, L) := by
  obtain ⟨w1, w2, w3, w4, w5⟩ := hI.w g
  intro n
  induction n with
  | zero =>
    intro k hk
    refine g_mo_stands_4 ?_
    rw [w1, zck_t (by omega), if_neg (by omega), List.take_of_length_le (by omega)]
    exact h
  | succ n ih =>
    intro k hk
    have e := ih (k + 1) (by omega)
    have ha := isW_at w3 (show k < (gw ws w).length by omega)
    have hb := lbits_64 (isW_take w3 k)
    have h6 := p6 (a := ((gw ws w).getD k 0).toNat) (by omega)
    refine g_mo_stands_4 ?_
    rw [w1]
    simp (disch := omega) only [zck_t, if_pos, if_neg, if_true, if_false, zwr_id, Int.toNat_natCast]
    rw [show (14 * w + (k : Int)).toNat = 14 * w.toNat + k by omega, w4 k (by omega), zshl_1 ha.1 (by omega), zor_nat (by omega) (by omega), ← lbits_take (by omega), show ((k : Int) + 1) = ((k + 1 : Nat) : Int) by omega]
    exact e
theorem mo_part_in {s x : Nat} {t4 : Int} {a1 : Int} (hs : s < 64) (hx : x < 64) (hl : lIs M 112 P R) (hp : ∀ a, a < 6 → P a < 64) (h : zEx (d + 1) m_mo_partOf zb0 Q 7 ([zR 112, zI a1, zI (s : Int), zI (prt P s 6 x : Int), zI (zwr (t4 + 1)), zI 6], [], SH, M, L)) :
    ∀ (n k : Nat), k + n = 6 → zEx (d + 1) m_mo_partOf zb0 Q 17 ([zR 112, zI a1, zI (s : Int), zI (prt P s k x : Int), zI t4, zI (k : Int)], [], SH, M, L) := by
  intro n
  induction n with
  | zero =>
    intro k hk
    have hk : k = 6 := by omega
    subst hk
    refine g_mo_partOf_17 ?_
    rw [if_neg (by decide)]
    exact h
  | succ n ih =>
    intro k hk
    have hpk := hp k (by omega)
    have l1 := prt_lt (P := P) hs k x hx
    have l2 : s ^^^ (s &&& P k) < 2 ^ 6 := xor_and_lt (by omega)
    have e := ih (k + 1) (by omega)
    refine g_mo_partOf_17 ?_
    have hl1 : M 113 k = (P k : Int) := (hl k (by omega)).1
    simp (disch := omega) only [zck_t, if_pos, if_neg, if_true, if_false, zwr_id, Int.toNat_natCast, hl1, zbit_if, zandn_nat, zor_nat]
    rw [show ((k : Int) + 1) = ((k + 1 : Nat) : Int) by omega]
    by_cases g : (prt P s k x).testBit k = true
    · rw [if_pos g]
      rw [show prt P s (k + 1) x = prt P s k x ||| (s ^^^ (s &&& P k)) from if_pos g] at e
      exact e
    · rw [if_neg g, show zor (prt P s k x : Int) 0 = ((prt P s k x ||| 0 : Nat) : Int) from zor_nat (b := 0) (by omega) (by omega), Nat.or_zero]
      rw [show prt P s (k + 1) x = prt P s k x from if_neg g] at e
      exact e
theorem mo_part_out {s x : Nat} {a1 : Int} (hs : s < 64) (hx : x < 64) (hl : lIs M 112 P R) (hp : ∀ a, a < 6 → P a < 64) (h : Q (prs P s 6 x : Int) (SH, M, L)) :
    ∀ (n k : Nat) (v5 : zV), k + n = 6 → zEx (d + 1) m_mo_partOf zb0 Q 7 ([zR 112, zI a1, zI (s : Int), zI (prs P s k x : Int), zI (k : Int), v5], [], SH, M, L) := by
  intro n
  induction n with
  | zero =>
    intro k v5 hk
    have hk : k = 6 := by omega
    subst hk
    refine g_mo_partOf_7 ?_
    rw [if_neg (by decide)]
    exact h
  | succ n ih =>
    intro k v5 hk
    refine g_mo_partOf_7 ?_
    simp (disch := omega) only [zck_t, if_pos, if_neg, if_true, if_false, zwr_id, Int.toNat_natCast]
    refine mo_part_in hs (prs_lt hs k x hx) hl hp ?_ 6 0 (by omega)
    rw [zwr_id (by omega) (by omega), show ((k : Int) + 1) = ((k + 1 : Nat) : Int) by omega]
    exact ih (k + 1) _ (by omega)
theorem e_mo_partOf {s a : Nat} (ha : a < 6) (hs : s < 64) (hl : lIs M 112 P R) (hp : ∀ a, a < 6 → P a < 64) (h : Q (prs P s 6 (2 ^ a) : Int) (SH, M, L)) : zEv (d + 1) m_mo_partOf [zR 112, zI (a : Int), zI (s : Int)] (SH, M, L) Q := by
  refine b_mo_partOf (g_mo_partOf_0 ?_)
  rw [zshl_1 (by omega) (by omega), Int.toNat_natCast]
  exact mo_part_out hs (p6 ha) hl hp h 6 0 zN (by omega)
end RB
