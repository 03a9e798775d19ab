/-! the class's calls: the last of the small ones -/
def pOf (u : List Int) (a n : Int) : Int := pot a u n 0
/-- what is told of a letter's n-th time -/
def sprd (P : Nat → Nat) (u : List Int) (a n what : Int) : Int := if pOf u a n < 0 then -9 else if what = 0 then (tdN P (u.getD (pOf u a n).toNat 0) (u.take (pOf u a n).toNat).reverse : Int) else (u.length : Int) - 1 - (tdN P (u.getD (pOf u a n).toNat 0) (u.drop ((pOf u a n).toNat + 1)) : Int)
def opSpread (P R : Nat → Nat) (ws : List (List Int)) (tx : List Int) (hs : List zLw) (kp : zKp) (ls : Nat → Option (List Int)) (rf : Nat → Int) (w a n what : Int) : zSt × Int := if wd ws w ∧ lt6 a then (if n < 0 then sNo P R ws tx hs kp ls rf 4 else if what = 0 ∨ what = 1 then sOk P R ws tx hs kp ls rf (sprd P (gw ws w) a n what) else sNo P R ws tx hs kp ls rf 2) else sNo P R ws tx hs kp ls rf 1
def lowN (P R : Nat → Nat) (u : List Int) : Nat := cnt (fun a => (rdy P u).testBit a && decide (R a < 3)) 6
def opOdds (P R : Nat → Nat) (ws : List (List Int)) (tx : List Int) (hs : List zLw) (kp : zKp) (ls : Nat → Option (List Int)) (rf : Nat → Int) (w part : Int) : zSt × Int := if wd ws w then (if part = 0 ∨ part = 1 then (if lowN P R (gw ws w) = 0 then sOk P R ws tx hs kp ls rf part else sOk P R ws tx hs kp ls rf (if part = 0 then ((lowN P R (gw ws w) / Nat.gcd (lowN P R (gw ws w)) (bcn (rdy P (gw ws w))) : Nat) : Int) else ((bcn (rdy P (gw ws w)) / Nat.gcd (lowN P R (gw ws w)) (bcn (rdy P (gw ws w))) : Nat) : Int))) else sNl P R ws tx hs kp ls rf 2) else sNl P R ws tx hs kp ls rf 1
section PE
variable {d : Nat} {M M' L : zM} {Q : Int → zW → Prop} {P R : Nat → Nat} {ws : List (List Int)} {tx : List Int} {hs : List zLw} {kp : zKp} {ls : Nat → Option (List Int)} {rf : Nat → Int}
theorem c_lt_lays {l i w : Int} (hi : zr32 i) (hI : iC M P R ws tx hs kp ls rf) (h : ∀ M1 L1, jC M1 (opLays P R ws tx hs kp ls rf l i w).1 → aM M M1 → Q (opLays P R ws tx hs kp ls rf l i w).2 (SH, M1, L1)) : zEv (d + 9) m_lt_lays [zR 0, zI l, zI i, zI w] (SH, M, L) Q := by
  unfold opLays at h
  have z108 := zRow_108
  refine b_lt_lays ?_
  (first | refine g_lt_lays_0 ?_ | refine g_lt_lays_4 ?_ | refine g_lt_lays_12 ?_ | refine g_lt_lays_20 ?_ | refine g_lt_lays_29 ?_ | refine g_lt_lays_43 (by assumption) ?_ | refine g_lt_lays_53 (by assumption) (by assumption) ?_ | refine g_lt_lays_63 (by assumption) (by assumption) (by assumption) ?_ | refine g_lt_lays_66 (by assumption) (by assumption) ?_ | refine g_lt_lays_86 (by assumption) (by assumption) ?_ | refine g_lt_lays_96 (by assumption) (by assumption) ?_ | refine g_lt_lays_103 (by assumption) (by assumption) ?_)
  refine e_lt_noList ?_
  (first | refine g_lt_lays_0 ?_ | refine g_lt_lays_4 ?_ | refine g_lt_lays_12 ?_ | refine g_lt_lays_20 ?_ | refine g_lt_lays_29 ?_ | refine g_lt_lays_43 (by assumption) ?_ | refine g_lt_lays_53 (by assumption) (by assumption) ?_ | refine g_lt_lays_63 (by assumption) (by assumption) (by assumption) ?_ | refine g_lt_lays_66 (by assumption) (by assumption) ?_ | refine g_lt_lays_86 (by assumption) (by assumption) ?_ | refine g_lt_lays_96 (by assumption) (by assumption) ?_ | refine g_lt_lays_103 (by assumption) (by assumption) ?_)
  by_cases g : lt3 l
  · rw [if_pos g, if_pos rfl]
    refine e_lt_noWord hI.s ?_
    (first | refine g_lt_lays_0 ?_ | refine g_lt_lays_4 ?_ | refine g_lt_lays_12 ?_ | refine g_lt_lays_20 ?_ | refine g_lt_lays_29 ?_ | refine g_lt_lays_43 (by assumption) ?_ | refine g_lt_lays_53 (by assumption) (by assumption) ?_ | refine g_lt_lays_63 (by assumption) (by assumption) (by assumption) ?_ | refine g_lt_lays_66 (by assumption) (by assumption) ?_ | refine g_lt_lays_86 (by assumption) (by assumption) ?_ | refine g_lt_lays_96 (by assumption) (by assumption) ?_ | refine g_lt_lays_103 (by assumption) (by assumption) ?_)
    by_cases g1 : wd ws w
    · obtain ⟨za, ru, hw, h14, h64⟩ := hI.w g1
      rw [if_pos ⟨g, g1⟩] at h
      rw [if_pos g1, if_pos rfl]
      refine e_nu_lacks hI.n g ?_
      (first | refine g_lt_lays_0 ?_ | refine g_lt_lays_4 ?_ | refine g_lt_lays_12 ?_ | refine g_lt_lays_20 ?_ | refine g_lt_lays_29 ?_ | refine g_lt_lays_43 (by assumption) ?_ | refine g_lt_lays_53 (by assumption) (by assumption) ?_ | refine g_lt_lays_63 (by assumption) (by assumption) (by assumption) ?_ | refine g_lt_lays_66 (by assumption) (by assumption) ?_ | refine g_lt_lays_86 (by assumption) (by assumption) ?_ | refine g_lt_lays_96 (by assumption) (by assumption) ?_ | refine g_lt_lays_103 (by assumption) (by assumption) ?_)
      cases q : ls l.toNat with
      | none =>
        rw [q] at h
        exact zif_f (by simp) (h M L hI aM.r0)
      | some xs =>
        obtain ⟨zr, rx, x40⟩ := hI.gl g q
        have hn : zr32 ((gw ws w).length : Int) := by unfold zr32; omega
        rw [q] at h
        refine zif_t (by simp) (e_nu_row g ?_)
        rw [Int.toNat_natCast]
        (first | refine g_lt_lays_0 ?_ | refine g_lt_lays_4 ?_ | refine g_lt_lays_12 ?_ | refine g_lt_lays_20 ?_ | refine g_lt_lays_29 ?_ | refine g_lt_lays_43 (by assumption) ?_ | refine g_lt_lays_53 (by assumption) (by assumption) ?_ | refine g_lt_lays_63 (by assumption) (by assumption) (by assumption) ?_ | refine g_lt_lays_66 (by assumption) (by assumption) ?_ | refine g_lt_lays_86 (by assumption) (by assumption) ?_ | refine g_lt_lays_96 (by assumption) (by assumption) ?_ | refine g_lt_lays_103 (by assumption) (by assumption) ?_)
        refine e_sh_rowI hI g1 ?_
        rw [Int.toNat_natCast]
        (first | refine g_lt_lays_0 ?_ | refine g_lt_lays_4 ?_ | refine g_lt_lays_12 ?_ | refine g_lt_lays_20 ?_ | refine g_lt_lays_29 ?_ | refine g_lt_lays_43 (by assumption) ?_ | refine g_lt_lays_53 (by assumption) (by assumption) ?_ | refine g_lt_lays_63 (by assumption) (by assumption) (by assumption) ?_ | refine g_lt_lays_66 (by assumption) (by assumption) ?_ | refine g_lt_lays_86 (by assumption) (by assumption) ?_ | refine g_lt_lays_96 (by assumption) (by assumption) ?_ | refine g_lt_lays_103 (by assumption) (by assumption) ?_)
        refine e_ro_size za ru ?_
        refine g_lt_lays_63 zr za zr ?_
        refine e_ro_has zr rx hi hn ?_
        refine g_lt_lays_66 zr za ?_
        cases g6 : rhas xs.length i (gw ws w).length with
        | false =>
          simp only [g6] at h
          exact zif_t (by simp) (h M L hI aM.r0)
        | true =>
          simp only [g6] at h
          refine zif_f (by simp) ?_
          refine e_be_arrange (last := false) za z108 (by omega) (by omega) ru hw hI.l hI.lo (by omega) (by rw [zc108]; omega) (fun M1 g2 f1 => ?_)
          have J1 := hI.D (f1.up (by decide))
          obtain ⟨_, rx, _⟩ := J1.1.gl g q
          refine g_lt_lays_86 zr za ?_
          have hll : (lw P R false (gw ws w)).length = (gw ws w).length := lw_len
          have hh : lw P R false (gw ws w) = [] ∨ 0 ≤ i ∧ i + (lw P R false (gw ws w)).length ≤ xs.length := by
            unfold rhas at g6
            have g6 := of_decide_eq_true g6
            by_cases e : lw P R false (gw ws w) = []
            · exact Or.inl e
            · have := List.length_pos_iff.mpr e
              right
              omega
          refine e_ro_overwrite zr z108 (by omega) rx g2 hh (fun M2 g3 f2 => ?_)
          refine g_lt_lays_96 zr za ?_
          refine e_ro_size z108 (f2.row zr z108 (by omega) g2) ?_
          refine g_lt_lays_103 zr za ?_
          rw [hll]
          exact h M2 L (J1.1.nx (lsFr (by omega) f2) (by decide) (J1.1.n.set (by omega) q f2 g3)) (J1.2.tr ((lsFr (by omega) f2).aM (by decide)))
    · rw [if_neg (fun q => g1 q.2)] at h
      rw [if_neg g1, if_neg (by decide)]
      (refine e_lt_no (k := 1) hI (by omega) (fun M1 I f => ?_); (first | refine g_lt_lays_0 ?_ | refine g_lt_lays_4 ?_ | refine g_lt_lays_12 ?_ | refine g_lt_lays_20 ?_ | refine g_lt_lays_29 ?_ | refine g_lt_lays_43 (by assumption) ?_ | refine g_lt_lays_53 (by assumption) (by assumption) ?_ | refine g_lt_lays_63 (by assumption) (by assumption) (by assumption) ?_ | refine g_lt_lays_66 (by assumption) (by assumption) ?_ | refine g_lt_lays_86 (by assumption) (by assumption) ?_ | refine g_lt_lays_96 (by assumption) (by assumption) ?_ | refine g_lt_lays_103 (by assumption) (by assumption) ?_); exact h M1 L I f)
  · rw [if_neg (fun q => g q.1)] at h
    rw [if_neg g, if_neg (by decide)]
    (refine e_lt_no (k := 1) hI (by omega) (fun M1 I f => ?_); (first | refine g_lt_lays_0 ?_ | refine g_lt_lays_4 ?_ | refine g_lt_lays_12 ?_ | refine g_lt_lays_20 ?_ | refine g_lt_lays_29 ?_ | refine g_lt_lays_43 (by assumption) ?_ | refine g_lt_lays_53 (by assumption) (by assumption) ?_ | refine g_lt_lays_63 (by assumption) (by assumption) (by assumption) ?_ | refine g_lt_lays_66 (by assumption) (by assumption) ?_ | refine g_lt_lays_86 (by assumption) (by assumption) ?_ | refine g_lt_lays_96 (by assumption) (by assumption) ?_ | refine g_lt_lays_103 (by assumption) (by assumption) ?_); exact h M1 L I f)
theorem c_lt_judge {l w : Int} (hI : iC M P R ws tx hs kp ls rf) (h : ∀ M1 L1, jC M1 (opJudge P R ws tx hs kp ls rf l w).1 → aM M M1 → Q (opJudge P R ws tx hs kp ls rf l w).2 (SH, M1, L1)) : zEv (d + 9) m_lt_judge [zR 0, zI l, zI w] (SH, M, L) Q := by
  unfold opJudge at h
  refine b_lt_judge ?_
  (first | refine g_lt_judge_0 ?_ | refine g_lt_judge_4 ?_ | refine g_lt_judge_12 ?_ | refine g_lt_judge_20 ?_ | refine g_lt_judge_29 ?_ | refine g_lt_judge_43 (by assumption) ?_ | refine g_lt_judge_51 (by assumption) (by assumption) ?_ | refine g_lt_judge_54 ?_)
  refine e_lt_noList ?_
  (first | refine g_lt_judge_0 ?_ | refine g_lt_judge_4 ?_ | refine g_lt_judge_12 ?_ | refine g_lt_judge_20 ?_ | refine g_lt_judge_29 ?_ | refine g_lt_judge_43 (by assumption) ?_ | refine g_lt_judge_51 (by assumption) (by assumption) ?_ | refine g_lt_judge_54 ?_)
  by_cases g : lt3 l
  · rw [if_pos g, if_pos rfl]
    refine e_lt_noWord hI.s ?_
    (first | refine g_lt_judge_0 ?_ | refine g_lt_judge_4 ?_ | refine g_lt_judge_12 ?_ | refine g_lt_judge_20 ?_ | refine g_lt_judge_29 ?_ | refine g_lt_judge_43 (by assumption) ?_ | refine g_lt_judge_51 (by assumption) (by assumption) ?_ | refine g_lt_judge_54 ?_)
    by_cases g1 : wd ws w
    · obtain ⟨za, ru, hw, h14, h64⟩ := hI.w g1
      rw [if_pos ⟨g, g1⟩] at h
      rw [if_pos g1, if_pos rfl]
      refine e_nu_lacks hI.n g ?_
      (first | refine g_lt_judge_0 ?_ | refine g_lt_judge_4 ?_ | refine g_lt_judge_12 ?_ | refine g_lt_judge_20 ?_ | refine g_lt_judge_29 ?_ | refine g_lt_judge_43 (by assumption) ?_ | refine g_lt_judge_51 (by assumption) (by assumption) ?_ | refine g_lt_judge_54 ?_)
      cases q : ls l.toNat with
      | none =>
        rw [q] at h
        exact zif_f (by simp) (h M L hI aM.r0)
      | some xs =>
        obtain ⟨zr, rx, x40⟩ := hI.gl g q
        rw [q] at h
        refine zif_t (by simp) (e_nu_row g ?_)
        rw [Int.toNat_natCast]
        (first | refine g_lt_judge_0 ?_ | refine g_lt_judge_4 ?_ | refine g_lt_judge_12 ?_ | refine g_lt_judge_20 ?_ | refine g_lt_judge_29 ?_ | refine g_lt_judge_43 (by assumption) ?_ | refine g_lt_judge_51 (by assumption) (by assumption) ?_ | refine g_lt_judge_54 ?_)
        refine e_sh_rowI hI g1 ?_
        rw [Int.toNat_natCast]
        refine g_lt_judge_51 za zr ?_
        refine e_ro_firstOther zr za rx ru ?_
        (first | refine g_lt_judge_0 ?_ | refine g_lt_judge_4 ?_ | refine g_lt_judge_12 ?_ | refine g_lt_judge_20 ?_ | refine g_lt_judge_29 ?_ | refine g_lt_judge_43 (by assumption) ?_ | refine g_lt_judge_51 (by assumption) (by assumption) ?_ | refine g_lt_judge_54 ?_)
        exact h M L hI aM.r0
    · rw [if_neg (fun q => g1 q.2)] at h
      rw [if_neg g1, if_neg (by decide)]
      (refine e_lt_no (k := 1) hI (by omega) (fun M1 I f => ?_); (first | refine g_lt_judge_0 ?_ | refine g_lt_judge_4 ?_ | refine g_lt_judge_12 ?_ | refine g_lt_judge_20 ?_ | refine g_lt_judge_29 ?_ | refine g_lt_judge_43 (by assumption) ?_ | refine g_lt_judge_51 (by assumption) (by assumption) ?_ | refine g_lt_judge_54 ?_); exact h M1 L I f)
  · rw [if_neg (fun q => g q.1)] at h
    rw [if_neg g, if_neg (by decide)]
    (refine e_lt_no (k := 1) hI (by omega) (fun M1 I f => ?_); (first | refine g_lt_judge_0 ?_ | refine g_lt_judge_4 ?_ | refine g_lt_judge_12 ?_ | refine g_lt_judge_20 ?_ | refine g_lt_judge_29 ?_ | refine g_lt_judge_43 (by assumption) ?_ | refine g_lt_judge_51 (by assumption) (by assumption) ?_ | refine g_lt_judge_54 ?_); exact h M1 L I f)
theorem c_lt_undo (hI : iC M P R ws tx hs kp ls rf) (h : ∀ M1 L1, jC M1 (opUndo P R ws tx hs kp ls rf).1 → aM M M1 → Q (opUndo P R ws tx hs kp ls rf).2 (SH, M1, L1)) : zEv (d + 9) m_lt_undo [zR 0] (SH, M, L) Q := by
  refine b_lt_undo ?_
  (first | refine g_lt_undo_0 ?_ | refine g_lt_undo_7 ?_ | refine g_lt_undo_16 ?_ | refine g_lt_undo_28 ?_ | refine g_lt_undo_35 ?_)
  refine e_hi_size hI.h ?_
  (first | refine g_lt_undo_0 ?_ | refine g_lt_undo_7 ?_ | refine g_lt_undo_16 ?_ | refine g_lt_undo_28 ?_ | refine g_lt_undo_35 ?_)
  cases hs with
  | nil =>
    refine zif_t rfl ?_
    (refine e_lt_no (k := 3) hI (by omega) (fun M1 I f => ?_); (first | refine g_lt_undo_0 ?_ | refine g_lt_undo_7 ?_ | refine g_lt_undo_16 ?_ | refine g_lt_undo_28 ?_ | refine g_lt_undo_35 ?_); exact h M1 L I f)
  | cons p hs =>
    refine zif_f (by simp; omega) ?_
    refine e_hi_takeBack hI.h (fun M1 g1 g2 g3 f1 => ?_)
    (first | refine g_lt_undo_0 ?_ | refine g_lt_undo_7 ?_ | refine g_lt_undo_16 ?_ | refine g_lt_undo_28 ?_ | refine g_lt_undo_35 ?_)
    refine e_hi_size g1 ?_
    (first | refine g_lt_undo_0 ?_ | refine g_lt_undo_7 ?_ | refine g_lt_undo_16 ?_ | refine g_lt_undo_28 ?_ | refine g_lt_undo_35 ?_)
    exact h M1 L (hI.lx f1 (by decide) g2 g3 g1) (f1.aM (by decide))
theorem c_lt_image (hI : iC M P R ws tx hs kp ls rf) (h : ∀ M1 L1, jC M1 (opImage P R ws tx hs kp ls rf).1 → aM M M1 → Q (opImage P R ws tx hs kp ls rf).2 (SH, M1, L1)) : zEv (d + 9) m_lt_image [zR 0] (SH, M, L) Q := by
  refine b_lt_image ?_
  (first | refine g_lt_image_0 ?_ | refine g_lt_image_11 ?_ | refine g_lt_image_22 ?_ | refine g_lt_image_34 ?_)
  refine e_la_copy zLaw_47 zLaw_1 (by omega) (by omega) (by omega) hI.l (fun M1 g1 f1 => ?_)
  (first | refine g_lt_image_0 ?_ | refine g_lt_image_11 ?_ | refine g_lt_image_22 ?_ | refine g_lt_image_34 ?_)
  have f1' : cFr [48, 49] M M1 := f1.c (by decide) (by decide)
  refine e_sh_copy zShf_50 zShf_7 (by omega) (hI.s.fr f1' (by decide)) (fun M2 g2 f2 => ?_)
  (first | refine g_lt_image_0 ?_ | refine g_lt_image_11 ?_ | refine g_lt_image_22 ?_ | refine g_lt_image_34 ?_)
  have f3 : cFr [0] M2 (zmu M2 0 6 1) := fun k hk => zmu_kf (by simpa using hk)
  have fa : cFr cK M (zmu M2 0 6 1) := ((f1'.up (by decide)).tr (f2.up (by decide))).tr (f3.up (by decide))
  have s7 : sS (zmu M2 0 6 1) 7 ws := hI.s.fr fa (by decide)
  refine e_sh_size zShf_7 s7 ?_
  (first | refine g_lt_image_0 ?_ | refine g_lt_image_11 ?_ | refine g_lt_image_22 ?_ | refine g_lt_image_34 ?_)
  refine h _ L ⟨fa.law hI.l (by decide) (by decide), hI.lo, s7, hI.t.of (fun k hk => fa k (by revert k; decide)), hI.h.fr fa (by decide), ⟨zmu_s, ?_, hI.lo, ?_⟩, hI.n.of (fun k hk => fa k (by revert k; decide)), fun k hk => ?_, hI.c.of (fun k hk => fa k (by revert k; decide))⟩ (fa.aM (by decide))
  · exact f3.law (f2.law g1 (by decide) (by decide)) (by decide) (by decide)
  · exact g2.fr f3 (by decide)
  · rw [fa 81 (by decide)]; exact hI.f k hk
theorem c_lt_on (hI : iC M P R ws tx hs kp ls rf) (h : ∀ M1 L1, jC M1 (opOn P R ws tx hs kp ls rf).1 → aM M M1 → Q (opOn P R ws tx hs kp ls rf).2 (SH, M1, L1)) : zEv (d + 9) m_lt_on [zR 0] (SH, M, L) Q := by
  refine b_lt_on ?_
  (first | refine g_lt_on_0 ?_ | refine g_lt_on_13 ?_ | refine g_lt_on_25 ?_ | refine g_lt_on_36 ?_ | refine g_lt_on_43 ?_ | refine g_lt_on_50 ?_)
  have hk := hI.k
  cases kp with
  | none =>
    refine zif_t hk ?_
    (refine e_lt_no (k := 3) hI (by omega) (fun M1 I f => ?_); (first | refine g_lt_on_0 ?_ | refine g_lt_on_13 ?_ | refine g_lt_on_25 ?_ | refine g_lt_on_36 ?_ | refine g_lt_on_43 ?_ | refine g_lt_on_50 ?_); exact h M1 L I f)
  | some k =>
    obtain ⟨k1, k2, k3, k4⟩ := hk
    refine zif_f (by rw [k1]; decide) ?_
    refine e_la_copy zLaw_1 zLaw_47 (by omega) (by omega) (by omega) k2 (fun M1 g1 f1 => ?_)
    have f1' : cFr [2, 3] M M1 := f1.c (by decide) (by decide)
    (first | refine g_lt_on_0 ?_ | refine g_lt_on_13 ?_ | refine g_lt_on_25 ?_ | refine g_lt_on_36 ?_ | refine g_lt_on_43 ?_ | refine g_lt_on_50 ?_)
    refine e_sh_copy zShf_7 zShf_50 (by omega) (k4.fr f1' (by decide)) (fun M2 g2 f2 => ?_)
    (first | refine g_lt_on_0 ?_ | refine g_lt_on_13 ?_ | refine g_lt_on_25 ?_ | refine g_lt_on_36 ?_ | refine g_lt_on_43 ?_ | refine g_lt_on_50 ?_)
    refine e_hi_clear ((hI.h.fr f1' (by decide)).fr f2 (by decide)) (fun M3 g3 f3 => ?_)
    (first | refine g_lt_on_0 ?_ | refine g_lt_on_13 ?_ | refine g_lt_on_25 ?_ | refine g_lt_on_36 ?_ | refine g_lt_on_43 ?_ | refine g_lt_on_50 ?_)
    have s3 := g2.fr f3 (by decide)
    refine e_sh_size zShf_7 s3 ?_
    (first | refine g_lt_on_0 ?_ | refine g_lt_on_13 ?_ | refine g_lt_on_25 ?_ | refine g_lt_on_36 ?_ | refine g_lt_on_43 ?_ | refine g_lt_on_50 ?_)
    have fa : cFr (2 :: 3 :: 21 :: cS 7) M M3 := ((f1'.up (by decide)).tr (f2.up (by decide))).tr (f3.up (by decide))
    refine h _ L ⟨f3.law (f2.law g1 (by decide) (by decide)) (by decide) (by decide), k3, s3, hI.t.of (fun k hk => fa k (by revert k; decide)), g3, hI.k.of (fun k hk => fa k (by revert k; decide)), hI.n.of (fun k hk => fa k (by revert k; decide)), fun k hk => ?_, hI.c.of (fun k hk => fa k (by revert k; decide))⟩ (fa.aM (by decide))
    rw [fa 81 (by decide)]; exact hI.f k hk
theorem c_lt_count {x : Int} (hI : iC M P R ws tx hs kp ls rf) (h : ∀ M1 L1, jC M1 (opCount P R ws tx hs kp ls rf x).1 → aM M M1 → Q (opCount P R ws tx hs kp ls rf x).2 (SH, M1, L1)) : zEv (d + 9) m_lt_count [zR 0, zI x] (SH, M, L) Q := by
  unfold opCount at h
  have e := h M L hI aM.r0
  refine b_lt_count ?_
  (first | refine g_lt_count_0 ?_ | refine g_lt_count_63 ?_ | refine g_lt_count_71 ?_ | refine g_lt_count_79 ?_ | refine g_lt_count_87 ?_ | refine g_lt_count_95 ?_)
  by_cases c1 : 11 ≤ x ∧ x ≤ 16
  · have hf := hI.f (x - 11).toNat (by omega)
    rw [if_pos c1] at e
    simp (disch := omega) only [zck_t, if_pos, if_neg, if_true, if_false, zwr_id, Int.toNat_natCast, hf]
    exact e
  · rw [if_neg c1] at e
    by_cases c2 : x = 0
    · rw [if_pos c2] at e
      simp (disch := omega) only [zck_t, if_pos, if_neg, if_true, if_false, zwr_id, Int.toNat_natCast]
      refine e_sh_size zShf_7 hI.s ?_
      (first | refine g_lt_count_0 ?_ | refine g_lt_count_63 ?_ | refine g_lt_count_71 ?_ | refine g_lt_count_79 ?_ | refine g_lt_count_87 ?_ | refine g_lt_count_95 ?_)
      exact e
    · rw [if_neg c2] at e
      by_cases c3 : x = 1
      · rw [if_pos c3] at e
        simp (disch := omega) only [zck_t, if_pos, if_neg, if_true, if_false, zwr_id, Int.toNat_natCast]
        refine e_ro_size zRow_64 hI.t.1 ?_
        (first | refine g_lt_count_0 ?_ | refine g_lt_count_63 ?_ | refine g_lt_count_71 ?_ | refine g_lt_count_79 ?_ | refine g_lt_count_87 ?_ | refine g_lt_count_95 ?_)
        exact e
      · rw [if_neg c3] at e
        by_cases c4 : x = 2
        · rw [if_pos c4] at e
          simp (disch := omega) only [zck_t, if_pos, if_neg, if_true, if_false, zwr_id, Int.toNat_natCast]
          refine e_sh_allLetters zShf_7 hI.s ?_
          (first | refine g_lt_count_0 ?_ | refine g_lt_count_63 ?_ | refine g_lt_count_71 ?_ | refine g_lt_count_79 ?_ | refine g_lt_count_87 ?_ | refine g_lt_count_95 ?_)
          exact e
        · rw [if_neg c4] at e
          by_cases c5 : x = 3
          · rw [if_pos c5] at e
            simp (disch := omega) only [zck_t, if_pos, if_neg, if_true, if_false, zwr_id, Int.toNat_natCast]
            refine e_la_howManyPairs zLaw_1 hI.l hI.lo ?_
            (first | refine g_lt_count_0 ?_ | refine g_lt_count_63 ?_ | refine g_lt_count_71 ?_ | refine g_lt_count_79 ?_ | refine g_lt_count_87 ?_ | refine g_lt_count_95 ?_)
            exact e
          · rw [if_neg c5] at e
            by_cases c6 : x = 4
            · rw [if_pos c6] at e
              simp (disch := omega) only [zck_t, if_pos, if_neg, if_true, if_false, zwr_id, Int.toNat_natCast]
              refine e_hi_size hI.h ?_
              (first | refine g_lt_count_0 ?_ | refine g_lt_count_63 ?_ | refine g_lt_count_71 ?_ | refine g_lt_count_79 ?_ | refine g_lt_count_87 ?_ | refine g_lt_count_95 ?_)
              exact e
            · rw [if_neg c6] at e
              by_cases c7 : x < 11
              · simp (disch := omega) only [zck_t, if_pos, if_neg, if_true, if_false, zwr_id, Int.toNat_natCast]
                exact e
              · simp (disch := omega) only [zck_t, if_pos, if_neg, if_true, if_false, zwr_id, Int.toNat_natCast]
                exact e
theorem pot_in {x : Int} : ∀ (u : List Int) (n k : Int), 0 ≤ k → 0 ≤ n → pot x u n k = -9 ∨ (k ≤ pot x u n k ∧ pot x u n k < k + u.length)
  | [], n, k, _, _ => Or.inl rfl
  | a :: u, n, k, hk, hn => by
    unfold pot
    rw [List.length_cons]
    by_cases h : a = x
    · rw [if_pos h]
      by_cases h2 : n = 0
      · rw [if_pos h2]; right; omega
      · rw [if_neg h2]
        rcases pot_in u (n - 1) (k + 1) (by omega) (by omega) with q | q
        · exact Or.inl q
        · right; omega
    · rw [if_neg h]
      rcases pot_in u n (k + 1) (by omega) hn with q | q
      · exact Or.inl q
      · right; omega
theorem tdN_le {P : Nat → Nat} {a : Int} {v : List Int} : tdN P a v ≤ v.length := by
  have : ∀ (v : List Int) (s : Nat × Nat), (v.foldl (tdS P) s).2 ≤ s.2 + v.length := by
    intro v
    induction v with
    | nil => intro s; simp
    | cons c v ih =>
      intro s
      have h1 := ih (tdS P s c)
      have h2 : (tdS P s c).2 ≤ s.2 + 1 := by
        unfold tdS
        split
        · omega
        · exact Nat.le_refl _
      rw [List.foldl_cons, List.length_cons]
      omega
  have := this v (2 ^ a.toNat, 0)
  unfold tdN
  dsimp only at this
  omega
theorem c_lt_spread {w a n x : Int} (hI : iC M P R ws tx hs kp ls rf) (h : ∀ M1 L1, jC M1 (opSpread P R ws tx hs kp ls rf w a n x).1 → aM M M1 → Q (opSpread P R ws tx hs kp ls rf w a n x).2 (SH, M1, L1)) : zEv (d + 9) m_lt_spread [zR 0, zI w, zI a, zI n, zI x] (SH, M, L) Q := by
  unfold opSpread at h
  refine b_lt_spread ?_
  (first | refine g_lt_spread_0 ?_ | refine g_lt_spread_5 ?_ | refine g_lt_spread_12 ?_ | refine g_lt_spread_20 ?_ | refine g_lt_spread_31 ?_ | refine g_lt_spread_37 ?_ | refine g_lt_spread_46 ?_ | refine g_lt_spread_55 (by assumption) ?_ | refine g_lt_spread_64 (by assumption) ?_ | refine g_lt_spread_91 (by assumption) ?_ | refine g_lt_spread_97 (by assumption) ?_ | refine g_lt_spread_111 (by assumption) ?_)
  refine e_lt_noWord hI.s ?_
  (first | refine g_lt_spread_0 ?_ | refine g_lt_spread_5 ?_ | refine g_lt_spread_12 ?_ | refine g_lt_spread_20 ?_ | refine g_lt_spread_31 ?_ | refine g_lt_spread_37 ?_ | refine g_lt_spread_46 ?_ | refine g_lt_spread_55 (by assumption) ?_ | refine g_lt_spread_64 (by assumption) ?_ | refine g_lt_spread_91 (by assumption) ?_ | refine g_lt_spread_97 (by assumption) ?_ | refine g_lt_spread_111 (by assumption) ?_)
  by_cases g : wd ws w
  · obtain ⟨za, ru, hw, h14, h64⟩ := hI.w g
    rw [if_pos g, if_pos rfl]
    refine e_lt_noLetter ?_
    (first | refine g_lt_spread_0 ?_ | refine g_lt_spread_5 ?_ | refine g_lt_spread_12 ?_ | refine g_lt_spread_20 ?_ | refine g_lt_spread_31 ?_ | refine g_lt_spread_37 ?_ | refine g_lt_spread_46 ?_ | refine g_lt_spread_55 (by assumption) ?_ | refine g_lt_spread_64 (by assumption) ?_ | refine g_lt_spread_91 (by assumption) ?_ | refine g_lt_spread_97 (by assumption) ?_ | refine g_lt_spread_111 (by assumption) ?_)
    by_cases ga : lt6 a
    · rw [if_pos ⟨g, ga⟩] at h
      rw [if_pos ga, if_pos rfl]
      by_cases g2 : n < 0
      · rw [if_pos g2] at h ⊢
        (refine e_lt_no (k := 4) hI (by omega) (fun M1 I f => ?_); (first | refine g_lt_spread_0 ?_ | refine g_lt_spread_5 ?_ | refine g_lt_spread_12 ?_ | refine g_lt_spread_20 ?_ | refine g_lt_spread_31 ?_ | refine g_lt_spread_37 ?_ | refine g_lt_spread_46 ?_ | refine g_lt_spread_55 (by assumption) ?_ | refine g_lt_spread_64 (by assumption) ?_ | refine g_lt_spread_91 (by assumption) ?_ | refine g_lt_spread_97 (by assumption) ?_ | refine g_lt_spread_111 (by assumption) ?_); exact h M1 L I f)
      · rw [if_neg g2] at h ⊢
        refine e_lt_noSuch ?_
        (first | refine g_lt_spread_0 ?_ | refine g_lt_spread_5 ?_ | refine g_lt_spread_12 ?_ | refine g_lt_spread_20 ?_ | refine g_lt_spread_31 ?_ | refine g_lt_spread_37 ?_ | refine g_lt_spread_46 ?_ | refine g_lt_spread_55 (by assumption) ?_ | refine g_lt_spread_64 (by assumption) ?_ | refine g_lt_spread_91 (by assumption) ?_ | refine g_lt_spread_97 (by assumption) ?_ | refine g_lt_spread_111 (by assumption) ?_)
        by_cases g3 : x = 0 ∨ x = 1
        · rw [if_pos g3] at h ⊢
          rw [if_pos rfl]
          have e := h M L hI aM.r0
          refine e_sh_rowI hI g ?_
          rw [Int.toNat_natCast]
          (first | refine g_lt_spread_0 ?_ | refine g_lt_spread_5 ?_ | refine g_lt_spread_12 ?_ | refine g_lt_spread_20 ?_ | refine g_lt_spread_31 ?_ | refine g_lt_spread_37 ?_ | refine g_lt_spread_46 ?_ | refine g_lt_spread_55 (by assumption) ?_ | refine g_lt_spread_64 (by assumption) ?_ | refine g_lt_spread_91 (by assumption) ?_ | refine g_lt_spread_97 (by assumption) ?_ | refine g_lt_spread_111 (by assumption) ?_)
          refine e_ro_placeOfTime za ru ?_
          (first | refine g_lt_spread_0 ?_ | refine g_lt_spread_5 ?_ | refine g_lt_spread_12 ?_ | refine g_lt_spread_20 ?_ | refine g_lt_spread_31 ?_ | refine g_lt_spread_37 ?_ | refine g_lt_spread_46 ?_ | refine g_lt_spread_55 (by assumption) ?_ | refine g_lt_spread_64 (by assumption) ?_ | refine g_lt_spread_91 (by assumption) ?_ | refine g_lt_spread_97 (by assumption) ?_ | refine g_lt_spread_111 (by assumption) ?_)
          have hp := pot_in (x := a) (gw ws w) n 0 (by omega) (by omega)
          have e : Q (sprd P (gw ws w) a n x) (SH, M, L) := e
          unfold sprd at e
          rw [show pOf (gw ws w) a n = pot a (gw ws w) n 0 from rfl] at e
          generalize pot a (gw ws w) n 0 = p at e hp ⊢
          by_cases g4 : p < 0
          · rw [if_pos g4] at e ⊢
            exact e
          · rw [if_neg g4] at e ⊢
            obtain ⟨k, rfl⟩ : ∃ k : Nat, p = (k : Int) := ⟨p.toNat, by omega⟩
            rw [Int.toNat_natCast] at e
            by_cases g5 : x = 0
            · rw [if_pos g5] at e ⊢
              refine e_la_tiedBack zLaw_1 za hI.l hI.lo.1 ru hw (by omega) ?_
              (first | refine g_lt_spread_0 ?_ | refine g_lt_spread_5 ?_ | refine g_lt_spread_12 ?_ | refine g_lt_spread_20 ?_ | refine g_lt_spread_31 ?_ | refine g_lt_spread_37 ?_ | refine g_lt_spread_46 ?_ | refine g_lt_spread_55 (by assumption) ?_ | refine g_lt_spread_64 (by assumption) ?_ | refine g_lt_spread_91 (by assumption) ?_ | refine g_lt_spread_97 (by assumption) ?_ | refine g_lt_spread_111 (by assumption) ?_)
              exact e
            · rw [if_neg g5] at e ⊢
              refine e_ro_size za ru ?_
              (first | refine g_lt_spread_0 ?_ | refine g_lt_spread_5 ?_ | refine g_lt_spread_12 ?_ | refine g_lt_spread_20 ?_ | refine g_lt_spread_31 ?_ | refine g_lt_spread_37 ?_ | refine g_lt_spread_46 ?_ | refine g_lt_spread_55 (by assumption) ?_ | refine g_lt_spread_64 (by assumption) ?_ | refine g_lt_spread_91 (by assumption) ?_ | refine g_lt_spread_97 (by assumption) ?_ | refine g_lt_spread_111 (by assumption) ?_)
              refine e_la_tiedOn zLaw_1 za hI.l hI.lo.1 ru hw (by omega) ?_
              (first | refine g_lt_spread_0 ?_ | refine g_lt_spread_5 ?_ | refine g_lt_spread_12 ?_ | refine g_lt_spread_20 ?_ | refine g_lt_spread_31 ?_ | refine g_lt_spread_37 ?_ | refine g_lt_spread_46 ?_ | refine g_lt_spread_55 (by assumption) ?_ | refine g_lt_spread_64 (by assumption) ?_ | refine g_lt_spread_91 (by assumption) ?_ | refine g_lt_spread_97 (by assumption) ?_ | refine g_lt_spread_111 (by assumption) ?_)
              have hle := tdN_le (P := P) (a := (gw ws w).getD k 0) (v := (gw ws w).drop (k + 1))
              rw [List.length_drop] at hle
              rw [zwr_id (x := ((gw ws w).length : Int) - 1) (by omega) (by omega), zwr_id (by omega) (by omega)]
              exact e
        · rw [if_neg g3] at h ⊢
          rw [if_neg (by decide)]
          (refine e_lt_no (k := 2) hI (by omega) (fun M1 I f => ?_); (first | refine g_lt_spread_0 ?_ | refine g_lt_spread_5 ?_ | refine g_lt_spread_12 ?_ | refine g_lt_spread_20 ?_ | refine g_lt_spread_31 ?_ | refine g_lt_spread_37 ?_ | refine g_lt_spread_46 ?_ | refine g_lt_spread_55 (by assumption) ?_ | refine g_lt_spread_64 (by assumption) ?_ | refine g_lt_spread_91 (by assumption) ?_ | refine g_lt_spread_97 (by assumption) ?_ | refine g_lt_spread_111 (by assumption) ?_); exact h M1 L I f)
    · rw [if_neg (fun q => ga q.2)] at h
      rw [if_neg ga, if_neg (by decide)]
      (refine e_lt_no (k := 1) hI (by omega) (fun M1 I f => ?_); (first | refine g_lt_spread_0 ?_ | refine g_lt_spread_5 ?_ | refine g_lt_spread_12 ?_ | refine g_lt_spread_20 ?_ | refine g_lt_spread_31 ?_ | refine g_lt_spread_37 ?_ | refine g_lt_spread_46 ?_ | refine g_lt_spread_55 (by assumption) ?_ | refine g_lt_spread_64 (by assumption) ?_ | refine g_lt_spread_91 (by assumption) ?_ | refine g_lt_spread_97 (by assumption) ?_ | refine g_lt_spread_111 (by assumption) ?_); exact h M1 L I f)
  · rw [if_neg (fun q => g q.1)] at h
    rw [if_neg g, if_neg (by decide)]
    (refine e_lt_no (k := 1) hI (by omega) (fun M1 I f => ?_); (first | refine g_lt_spread_0 ?_ | refine g_lt_spread_5 ?_ | refine g_lt_spread_12 ?_ | refine g_lt_spread_20 ?_ | refine g_lt_spread_31 ?_ | refine g_lt_spread_37 ?_ | refine g_lt_spread_46 ?_ | refine g_lt_spread_55 (by assumption) ?_ | refine g_lt_spread_64 (by assumption) ?_ | refine g_lt_spread_91 (by assumption) ?_ | refine g_lt_spread_97 (by assumption) ?_ | refine g_lt_spread_111 (by assumption) ?_); exact h M1 L I f)
/-- the greatest that divides both, up to k -/
def cdv (a b : Nat) : Nat → Nat
  | 0 => 1
  | k + 1 => if k + 1 ≤ a ∧ k + 1 ≤ b ∧ a % (k + 1) = 0 ∧ b % (k + 1) = 0 then k + 1 else cdv a b k
theorem cdv_gcd : ∀ a, a < 7 → ∀ b, b < 7 → 0 < a → 0 < b → cdv a b 7 = Nat.gcd a b := by decide +kernel
theorem cdv_stop {a b : Nat} : ∀ k, (a ≤ k ∨ b ≤ k) → ∀ n, cdv a b (k + n) = cdv a b k
  | k, h, 0 => rfl
  | k, h, n + 1 => by
    show (if k + n + 1 ≤ a ∧ k + n + 1 ≤ b ∧ a % (k + n + 1) = 0 ∧ b % (k + n + 1) = 0 then k + n + 1 else cdv a b (k + n)) = _
    rw [if_neg (by omega), cdv_stop k h n]
theorem lt_cd_loop {a b : Nat} (ha : 0 < a ∧ a < 7) (hb : 0 < b ∧ b < 7) (h : Q (Nat.gcd a b : Int) (SH, M, L)) :
    ∀ (n k : Nat), k + n = 8 → 2 ≤ k → zEx (d + 1) m_lt_commonDivisor zb0 Q 4 ([zI (a : Int), zI (b : Int), zI (cdv a b (k - 1) : Int), zI (k : Int)], [], SH, M, L) := by
  intro n
  induction n with
  | zero =>
    intro k hk hk2
    have hk : k = 8 := by omega
    subst hk
    refine g_lt_commonDivisor_4 ?_
    simp (disch := omega) only [zck_t, if_pos, if_neg, if_true, if_false, zwr_id, Int.toNat_natCast]
    rw [show 8 - 1 = 7 from rfl, cdv_gcd a ha.2 b hb.2 ha.1 hb.1]
    exact h
  | succ n ih =>
    intro k hk hk2
    refine g_lt_commonDivisor_4 ?_
    have stop : (a ≤ k - 1 ∨ b ≤ k - 1) → Q (cdv a b (k - 1) : Int) (SH, M, L) := fun q => by
      have := cdv_stop (k - 1) q (8 - k)
      rw [show k - 1 + (8 - k) = 7 by omega] at this
      rw [← this, cdv_gcd a ha.2 b hb.2 ha.1 hb.1]
      exact h
    have e := ih (k + 1) (by omega) (by omega)
    rw [show k + 1 - 1 = (k - 1) + 1 by omega] at e
    have es : cdv a b (k - 1 + 1) = if k - 1 + 1 ≤ a ∧ k - 1 + 1 ≤ b ∧ a % (k - 1 + 1) = 0 ∧ b % (k - 1 + 1) = 0 then k - 1 + 1 else cdv a b (k - 1) := rfl
    rw [es, show k - 1 + 1 = k by omega] at e
    refine zif_c (fun g => stop (by omega)) (fun g => zif_c (fun g2 => stop (by omega)) (fun g2 => ?_))
    rw [zrem_nat (by omega) (by omega) (by omega), zrem_nat (by omega) (by omega) (by omega), zwr_id (by omega) (by omega), zck_t (by omega), zck_t (by omega), show ((k : Int) + 1) = ((k + 1 : Nat) : Int) by omega]
    by_cases c1 : a % k = 0
    · rw [if_pos (by omega)]
      by_cases c2 : b % k = 0
      · rw [if_pos (by omega)]
        rw [if_pos ⟨by omega, by omega, c1, c2⟩] at e
        exact e
      · rw [if_neg (by omega)]
        rw [if_neg (fun q => c2 q.2.2.2)] at e
        exact e
    · rw [if_neg (by omega)]
      rw [if_neg (fun q => c1 q.2.2.1)] at e
      exact e
theorem e_lt_commonDivisor {a b : Nat} (ha : 0 < a ∧ a < 7) (hb : 0 < b ∧ b < 7) (h : Q (Nat.gcd a b : Int) (SH, M, L)) : zEv (d + 1) m_lt_commonDivisor [zI (a : Int), zI (b : Int)] (SH, M, L) Q := by
  refine b_lt_commonDivisor (g_lt_commonDivisor_0 ?_)
  have e : cdv a b 1 = 1 := by
    show (if _ then _ else _) = _
    split <;> rfl
  have := lt_cd_loop (d := d) ha hb h 6 2 (by omega) (by omega)
  rw [show 2 - 1 = 1 from rfl, e] at this
  exact this
theorem cnt_le2 {p q : Nat → Bool} : ∀ {k : Nat}, (∀ i, i < k → p i = true → q i = true) → cnt p k ≤ cnt q k
  | 0, _ => Nat.le_refl _
  | k + 1, h => by
    have h1 := cnt_le2 (k := k) (fun i hi => h i (by omega))
    have h2 := h k (by omega)
    show cnt p k + _ ≤ cnt q k + _
    cases hp : p k
    · simp only [Bool.false_eq_true, if_false]; omega
    · rw [h2 hp]; omega
theorem lowN_le {u : List Int} (hw : isW u) : lowN P R u ≤ bcn (rdy P u) := by
  unfold lowN
  rw [bcn_cnt _ (rdy_lt hw)]
  exact cnt_le2 (fun i _ h => (Bool.and_eq_true _ _ ▸ h).1)
theorem c_lt_odds {w x : Int} (hI : iC M P R ws tx hs kp ls rf) (h : ∀ M1 L1, jC M1 (opOdds P R ws tx hs kp ls rf w x).1 → aM M M1 → Q (opOdds P R ws tx hs kp ls rf w x).2 (SH, M1, L1)) : zEv (d + 9) m_lt_odds [zR 0, zI w, zI x] (SH, M, L) Q := by
  unfold opOdds at h
  refine b_lt_odds ?_
  (first | refine g_lt_odds_0 ?_ | refine g_lt_odds_5 ?_ | refine g_lt_odds_13 ?_ | refine g_lt_odds_18 ?_ | refine g_lt_odds_27 ?_ | refine g_lt_odds_40 (by assumption) ?_ | refine g_lt_odds_43 ?_ | refine g_lt_odds_48 ?_ | refine g_lt_odds_58 ?_ | refine g_lt_odds_75 ?_)
  refine e_lt_noWord hI.s ?_
  (first | refine g_lt_odds_0 ?_ | refine g_lt_odds_5 ?_ | refine g_lt_odds_13 ?_ | refine g_lt_odds_18 ?_ | refine g_lt_odds_27 ?_ | refine g_lt_odds_40 (by assumption) ?_ | refine g_lt_odds_43 ?_ | refine g_lt_odds_48 ?_ | refine g_lt_odds_58 ?_ | refine g_lt_odds_75 ?_)
  by_cases g : wd ws w
  · obtain ⟨za, ru, hw, h14, h64⟩ := hI.w g
    rw [if_pos g] at h ⊢
    rw [if_pos rfl]
    refine e_lt_noSuch ?_
    (first | refine g_lt_odds_0 ?_ | refine g_lt_odds_5 ?_ | refine g_lt_odds_13 ?_ | refine g_lt_odds_18 ?_ | refine g_lt_odds_27 ?_ | refine g_lt_odds_40 (by assumption) ?_ | refine g_lt_odds_43 ?_ | refine g_lt_odds_48 ?_ | refine g_lt_odds_58 ?_ | refine g_lt_odds_75 ?_)
    by_cases g3 : x = 0 ∨ x = 1
    · rw [if_pos g3] at h ⊢
      rw [if_pos rfl]
      refine e_sh_rowI hI g ?_
      rw [Int.toNat_natCast]
      refine g_lt_odds_40 za ?_
      refine e_la_readyLetters zLaw_1 za hI.l hI.lo.1 ru hw ?_
      have hr := rdy_lt (P := P) hw
      have hle := lowN_le (P := P) (R := R) hw
      have h6 := bcn_le6 hr
      (first | refine g_lt_odds_0 ?_ | refine g_lt_odds_5 ?_ | refine g_lt_odds_13 ?_ | refine g_lt_odds_18 ?_ | refine g_lt_odds_27 ?_ | refine g_lt_odds_40 (by assumption) ?_ | refine g_lt_odds_43 ?_ | refine g_lt_odds_48 ?_ | refine g_lt_odds_58 ?_ | refine g_lt_odds_75 ?_)
      refine e_jd_bitCount (by omega) ?_
      (first | refine g_lt_odds_0 ?_ | refine g_lt_odds_5 ?_ | refine g_lt_odds_13 ?_ | refine g_lt_odds_18 ?_ | refine g_lt_odds_27 ?_ | refine g_lt_odds_40 (by assumption) ?_ | refine g_lt_odds_43 ?_ | refine g_lt_odds_48 ?_ | refine g_lt_odds_58 ?_ | refine g_lt_odds_75 ?_)
      refine e_la_howManyLow hr zLaw_1 hI.l ?_
      (first | refine g_lt_odds_0 ?_ | refine g_lt_odds_5 ?_ | refine g_lt_odds_13 ?_ | refine g_lt_odds_18 ?_ | refine g_lt_odds_27 ?_ | refine g_lt_odds_40 (by assumption) ?_ | refine g_lt_odds_43 ?_ | refine g_lt_odds_48 ?_ | refine g_lt_odds_58 ?_ | refine g_lt_odds_75 ?_)
      have el : cnt (fun a => (rdy P (gw ws w)).testBit a && decide (R a < 3)) 6 = lowN P R (gw ws w) := rfl
      rw [el]
      by_cases g4 : lowN P R (gw ws w) = 0
      · rw [if_pos g4] at h
        rw [if_pos (by omega)]
        exact h M L hI aM.r0
      · rw [if_neg g4] at h
        rw [if_neg (by omega)]
        refine e_lt_commonDivisor (a := lowN P R (gw ws w)) (by omega) (by omega) ?_
        (first | refine g_lt_odds_0 ?_ | refine g_lt_odds_5 ?_ | refine g_lt_odds_13 ?_ | refine g_lt_odds_18 ?_ | refine g_lt_odds_27 ?_ | refine g_lt_odds_40 (by assumption) ?_ | refine g_lt_odds_43 ?_ | refine g_lt_odds_48 ?_ | refine g_lt_odds_58 ?_ | refine g_lt_odds_75 ?_)
        have e := h M L hI aM.r0
        have hg := Nat.gcd_pos_of_pos_left (bcn (rdy P (gw ws w))) (show 0 < lowN P R (gw ws w) by omega)
        have hg2 := Nat.gcd_le_left (bcn (rdy P (gw ws w))) (show 0 < lowN P R (gw ws w) by omega)
        rw [zdiv_nat (by omega) hg (by omega), zdiv_nat (by omega) hg (by omega), zck_t (by omega), zck_t (by omega)]
        by_cases g5 : x = 0
        · rw [if_pos g5]
          simp only [if_pos g5] at e
          exact e
        · rw [if_neg g5]
          simp only [if_neg g5] at e
          exact e
    · rw [if_neg g3] at h ⊢
      rw [if_neg (by decide)]
      refine e_lt_noFar (k := 2) hI (by omega) (fun M1 I f => ?_)
      (first | refine g_lt_odds_0 ?_ | refine g_lt_odds_5 ?_ | refine g_lt_odds_13 ?_ | refine g_lt_odds_18 ?_ | refine g_lt_odds_27 ?_ | refine g_lt_odds_40 (by assumption) ?_ | refine g_lt_odds_43 ?_ | refine g_lt_odds_48 ?_ | refine g_lt_odds_58 ?_ | refine g_lt_odds_75 ?_)
      exact h M1 L I f
  · rw [if_neg g] at h ⊢
    rw [if_neg (by decide)]
    refine e_lt_noFar (k := 1) hI (by omega) (fun M1 I f => ?_)
    (first | refine g_lt_odds_0 ?_ | refine g_lt_odds_5 ?_ | refine g_lt_odds_13 ?_ | refine g_lt_odds_18 ?_ | refine g_lt_odds_27 ?_ | refine g_lt_odds_40 (by assumption) ?_ | refine g_lt_odds_43 ?_ | refine g_lt_odds_48 ?_ | refine g_lt_odds_58 ?_ | refine g_lt_odds_75 ?_)
    exact h M1 L I f
end PE
