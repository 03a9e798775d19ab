/-! the class's calls -/
theorem zc110 : zln SH (110 + 1) = 28 := zl_111
theorem zk12 : ∀ k ∈ cKeep, k ∉ cD := by decide
section PC
variable {d : Nat} {M M' L : zM} {Q : Int → zW → Prop} {P R : Nat → Nat} {ws : List (List Int)} {tx : List Int} {hs : List zLw} {kp : zKp} {ls : Nat → Option (List Int)} {rf : Nat → Int}
theorem iC.D (hI : iC M P R ws tx hs kp ls rf) (hf : cFr cD M M') : iC M' P R ws tx hs kp ls rf ∧ aM M M' := ⟨hI.fr hf zk12, hf.aM (by decide)⟩
theorem c_lt_letter {c : Int} (hI : iC M P R ws tx hs kp ls rf) (h : ∀ M1 L1, jC M1 (opLetter P R ws tx hs kp ls rf c).1 → aM M M1 → Q (opLetter P R ws tx hs kp ls rf c).2 (SH, M1, L1)) : zEv (d + 9) m_lt_letter [zR 0, zI c] (SH, M, L) Q := by
  unfold opLetter at h
  have z64 := zRow_64
  refine b_lt_letter ?_
  (first | refine g_lt_letter_0 ?_ | refine g_lt_letter_10 ?_ | refine g_lt_letter_25 ?_ | refine g_lt_letter_36 ?_ | refine g_lt_letter_45 ?_ | refine g_lt_letter_52 ?_)
  by_cases g : c < 0
  · rw [if_pos g] at h ⊢
    (refine e_lt_no (k := 4) hI (by omega) (fun M1 I f => ?_); (first | refine g_lt_letter_0 ?_ | refine g_lt_letter_10 ?_ | refine g_lt_letter_25 ?_ | refine g_lt_letter_36 ?_ | refine g_lt_letter_45 ?_ | refine g_lt_letter_52 ?_); exact h M1 L I f)
  · rw [if_neg g] at h ⊢
    by_cases g2 : 255 < c
    · rw [if_pos (Or.inl g2)] at h
      rw [if_pos g2]
      (refine e_lt_no (k := 6) hI (by omega) (fun M1 I f => ?_); (first | refine g_lt_letter_0 ?_ | refine g_lt_letter_10 ?_ | refine g_lt_letter_25 ?_ | refine g_lt_letter_36 ?_ | refine g_lt_letter_45 ?_ | refine g_lt_letter_52 ?_); exact h M1 L I f)
    · rw [if_neg g2]
      refine e_ro_size zRow_64 hI.t.1 ?_
      (first | refine g_lt_letter_0 ?_ | refine g_lt_letter_10 ?_ | refine g_lt_letter_25 ?_ | refine g_lt_letter_36 ?_ | refine g_lt_letter_45 ?_ | refine g_lt_letter_52 ?_)
      have hl := hI.t.1.2.2
      by_cases g3 : tx.length < 72
      · rw [if_neg (by omega)] at h
        rw [if_pos (by omega)]
        refine e_ro_add zRow_64 hI.t.1 (fun M1 g1 f1 => ?_)
        rw [if_pos (by rw [show zln SH (64 + 1) = 72 from zl_65]; omega)] at g1
        (first | refine g_lt_letter_0 ?_ | refine g_lt_letter_10 ?_ | refine g_lt_letter_25 ?_ | refine g_lt_letter_36 ?_ | refine g_lt_letter_45 ?_ | refine g_lt_letter_52 ?_)
        refine e_ro_size zRow_64 g1 ?_
        (first | refine g_lt_letter_0 ?_ | refine g_lt_letter_10 ?_ | refine g_lt_letter_25 ?_ | refine g_lt_letter_36 ?_ | refine g_lt_letter_45 ?_ | refine g_lt_letter_52 ?_)
        have I := hI.xt (f1.c (S := [64, 65]) (by decide) (by decide)) (by decide) (hI.t.snoc g3 g1 (by omega))
        rw [List.length_append, List.length_singleton, show ((tx.length + 1 : Nat) : Int) = (tx.length : Int) + 1 by omega]
        exact h M1 L I ((f1.c (S := [64, 65]) (by decide) (by decide)).aM (by decide))
      · rw [if_pos (by omega)] at h
        rw [if_neg (by omega)]
        (refine e_lt_no (k := 6) hI (by omega) (fun M1 I f => ?_); (first | refine g_lt_letter_0 ?_ | refine g_lt_letter_10 ?_ | refine g_lt_letter_25 ?_ | refine g_lt_letter_36 ?_ | refine g_lt_letter_45 ?_ | refine g_lt_letter_52 ?_); exact h M1 L I f)
theorem c_lt_passes {a b : Int} (hI : iC M P R ws tx hs kp ls rf) (h : ∀ M1 L1, jC M1 (opPasses P R ws tx hs kp ls rf a b).1 → aM M M1 → Q (opPasses P R ws tx hs kp ls rf a b).2 (SH, M1, L1)) : zEv (d + 9) m_lt_passes [zR 0, zI a, zI b] (SH, M, L) Q := by
  unfold opPasses at h
  refine b_lt_passes ?_
  (first | refine g_lt_passes_0 ?_ | refine g_lt_passes_5 ?_ | refine g_lt_passes_13 ?_ | refine g_lt_passes_25 ?_ | refine g_lt_passes_34 ?_ | refine g_lt_passes_43 ?_ | refine g_lt_passes_46 ?_)
  refine e_lt_notTwoLetters ?_
  (first | refine g_lt_passes_0 ?_ | refine g_lt_passes_5 ?_ | refine g_lt_passes_13 ?_ | refine g_lt_passes_25 ?_ | refine g_lt_passes_34 ?_ | refine g_lt_passes_43 ?_ | refine g_lt_passes_46 ?_)
  by_cases g : two a b
  · rw [if_pos g] at h ⊢
    rw [if_pos rfl]
    refine e_hi_remember hI.h hI.l hI.lo (fun M1 g1 f1 => ?_)
    (first | refine g_lt_passes_0 ?_ | refine g_lt_passes_5 ?_ | refine g_lt_passes_13 ?_ | refine g_lt_passes_25 ?_ | refine g_lt_passes_34 ?_ | refine g_lt_passes_43 ?_ | refine g_lt_passes_46 ?_)
    have l1 := f1.law hI.l (by decide) (by decide)
    refine e_la_flip zLaw_1 l1 hI.lo ⟨g.1, g.2.1⟩ ⟨g.2.2.1, g.2.2.2.1⟩ g.2.2.2.2 (fun M2 g2 f2 => ?_)
    (first | refine g_lt_passes_0 ?_ | refine g_lt_passes_5 ?_ | refine g_lt_passes_13 ?_ | refine g_lt_passes_25 ?_ | refine g_lt_passes_34 ?_ | refine g_lt_passes_43 ?_ | refine g_lt_passes_46 ?_)
    have lo2 := flP_ok hI.lo (a := a.toNat) (b := b.toNat) (by omega) (by omega) (by omega)
    refine e_la_letPass zLaw_1 g2 lo2 ⟨g.1, g.2.1⟩ ⟨g.2.2.1, g.2.2.2.1⟩ ?_
    (first | refine g_lt_passes_0 ?_ | refine g_lt_passes_5 ?_ | refine g_lt_passes_13 ?_ | refine g_lt_passes_25 ?_ | refine g_lt_passes_34 ?_ | refine g_lt_passes_43 ?_ | refine g_lt_passes_46 ?_)
    refine e_lt_answer ?_
    (first | refine g_lt_passes_0 ?_ | refine g_lt_passes_5 ?_ | refine g_lt_passes_13 ?_ | refine g_lt_passes_25 ?_ | refine g_lt_passes_34 ?_ | refine g_lt_passes_43 ?_ | refine g_lt_passes_46 ?_)
    have f2' : cFr [2, 3] M1 M2 := f2.c (by decide) (by decide)
    have f3 : cFr (2 :: 3 :: cH) M M2 := (f1.up (by decide)).tr (f2'.up (by decide))
    have e := h M2 L (hI.lx f3 (by decide) g2 lo2 (g1.fr f2' (by decide))) (f3.aM (by decide))
    cases q : psL (flP P a.toNat b.toNat) a b
    · rw [q] at e; exact e
    · rw [q] at e; exact e
  · rw [if_neg g] at h ⊢
    rw [if_neg (by decide)]
    (refine e_lt_no (k := 1) hI (by omega) (fun M1 I f => ?_); (first | refine g_lt_passes_0 ?_ | refine g_lt_passes_5 ?_ | refine g_lt_passes_13 ?_ | refine g_lt_passes_25 ?_ | refine g_lt_passes_34 ?_ | refine g_lt_passes_43 ?_ | refine g_lt_passes_46 ?_); exact h M1 L I f)
theorem c_lt_ranks {a b : Int} (hI : iC M P R ws tx hs kp ls rf) (h : ∀ M1 L1, jC M1 (opRanks P R ws tx hs kp ls rf a b).1 → aM M M1 → Q (opRanks P R ws tx hs kp ls rf a b).2 (SH, M1, L1)) : zEv (d + 9) m_lt_ranks [zR 0, zI a, zI b] (SH, M, L) Q := by
  unfold opRanks at h
  refine b_lt_ranks ?_
  (first | refine g_lt_ranks_0 ?_ | refine g_lt_ranks_5 ?_ | refine g_lt_ranks_13 ?_ | refine g_lt_ranks_25 ?_ | refine g_lt_ranks_34 ?_ | refine g_lt_ranks_42 ?_)
  refine e_lt_notTwoLetters ?_
  (first | refine g_lt_ranks_0 ?_ | refine g_lt_ranks_5 ?_ | refine g_lt_ranks_13 ?_ | refine g_lt_ranks_25 ?_ | refine g_lt_ranks_34 ?_ | refine g_lt_ranks_42 ?_)
  by_cases g : two a b
  · rw [if_pos g] at h ⊢
    rw [if_pos rfl]
    refine e_hi_remember hI.h hI.l hI.lo (fun M1 g1 f1 => ?_)
    (first | refine g_lt_ranks_0 ?_ | refine g_lt_ranks_5 ?_ | refine g_lt_ranks_13 ?_ | refine g_lt_ranks_25 ?_ | refine g_lt_ranks_34 ?_ | refine g_lt_ranks_42 ?_)
    have l1 := f1.law hI.l (by decide) (by decide)
    refine e_la_swapRanks zLaw_1 l1 ⟨g.1, g.2.1⟩ ⟨g.2.2.1, g.2.2.2.1⟩ g.2.2.2.2 (fun M2 g2 f2 => ?_)
    (first | refine g_lt_ranks_0 ?_ | refine g_lt_ranks_5 ?_ | refine g_lt_ranks_13 ?_ | refine g_lt_ranks_25 ?_ | refine g_lt_ranks_34 ?_ | refine g_lt_ranks_42 ?_)
    have lo2 := swR_ok hI.lo (a := a.toNat) (b := b.toNat) (by omega) (by omega)
    refine e_la_rankOf zLaw_1 g2 ⟨g.1, g.2.1⟩ ?_
    (first | refine g_lt_ranks_0 ?_ | refine g_lt_ranks_5 ?_ | refine g_lt_ranks_13 ?_ | refine g_lt_ranks_25 ?_ | refine g_lt_ranks_34 ?_ | refine g_lt_ranks_42 ?_)
    have f2' : cFr [2, 3] M1 M2 := f2.c (by decide) (by decide)
    have f3 : cFr (2 :: 3 :: cH) M M2 := (f1.up (by decide)).tr (f2'.up (by decide))
    exact h M2 L (hI.lx f3 (by decide) g2 lo2 (g1.fr f2' (by decide))) (f3.aM (by decide))
  · rw [if_neg g] at h ⊢
    rw [if_neg (by decide)]
    (refine e_lt_no (k := 1) hI (by omega) (fun M1 I f => ?_); (first | refine g_lt_ranks_0 ?_ | refine g_lt_ranks_5 ?_ | refine g_lt_ranks_13 ?_ | refine g_lt_ranks_25 ?_ | refine g_lt_ranks_34 ?_ | refine g_lt_ranks_42 ?_); exact h M1 L I f)
theorem c_lt_drop (hI : iC M P R ws tx hs kp ls rf) (h : ∀ M1 L1, jC M1 (opDrop P R ws tx hs kp ls rf).1 → aM M M1 → Q (opDrop P R ws tx hs kp ls rf).2 (SH, M1, L1)) : zEv (d + 9) m_lt_drop [zR 0] (SH, M, L) Q := by
  unfold opDrop at h
  refine b_lt_drop ?_
  (first | refine g_lt_drop_0 ?_ | refine g_lt_drop_7 ?_ | refine g_lt_drop_16 ?_ | refine g_lt_drop_24 ?_ | refine g_lt_drop_31 ?_)
  refine e_sh_size zShf_7 hI.s ?_
  (first | refine g_lt_drop_0 ?_ | refine g_lt_drop_7 ?_ | refine g_lt_drop_16 ?_ | refine g_lt_drop_24 ?_ | refine g_lt_drop_31 ?_)
  by_cases g : ws = []
  · rw [if_pos g] at h
    rw [if_pos (by rw [g]; rfl)]
    (refine e_lt_no (k := 3) hI (by omega) (fun M1 I f => ?_); (first | refine g_lt_drop_0 ?_ | refine g_lt_drop_7 ?_ | refine g_lt_drop_16 ?_ | refine g_lt_drop_24 ?_ | refine g_lt_drop_31 ?_); exact h M1 L I f)
  · have g0 := List.length_pos_iff.mpr g
    rw [if_neg g] at h
    rw [if_neg (by omega)]
    refine e_sh_removeLast zShf_7 hI.s g0 (fun M1 g1 f1 => ?_)
    (first | refine g_lt_drop_0 ?_ | refine g_lt_drop_7 ?_ | refine g_lt_drop_16 ?_ | refine g_lt_drop_24 ?_ | refine g_lt_drop_31 ?_)
    refine e_sh_size zShf_7 g1 ?_
    (first | refine g_lt_drop_0 ?_ | refine g_lt_drop_7 ?_ | refine g_lt_drop_16 ?_ | refine g_lt_drop_24 ?_ | refine g_lt_drop_31 ?_)
    rw [List.length_dropLast, show ((ws.length - 1 : Nat) : Int) = (ws.length : Int) - 1 by omega]
    exact h M1 L (hI.sx f1 (by decide) g1) (f1.aM (by decide))
theorem c_lt_alike {a b : Int} (hI : iC M P R ws tx hs kp ls rf) (h : ∀ M1 L1, jC M1 (opAlike P R ws tx hs kp ls rf a b).1 → aM M M1 → Q (opAlike P R ws tx hs kp ls rf a b).2 (SH, M1, L1)) : zEv (d + 9) m_lt_alike [zR 0, zI a, zI b] (SH, M, L) Q := by
  unfold opAlike at h
  refine b_lt_alike ?_
  (first | refine g_lt_alike_0 ?_ | refine g_lt_alike_5 ?_ | refine g_lt_alike_13 ?_ | refine g_lt_alike_21 ?_ | refine g_lt_alike_34 (by assumption) ?_ | refine g_lt_alike_42 (by assumption) (by assumption) ?_ | refine g_lt_alike_45 ?_ | refine g_lt_alike_48 ?_)
  refine e_lt_noWord hI.s ?_
  (first | refine g_lt_alike_0 ?_ | refine g_lt_alike_5 ?_ | refine g_lt_alike_13 ?_ | refine g_lt_alike_21 ?_ | refine g_lt_alike_34 (by assumption) ?_ | refine g_lt_alike_42 (by assumption) (by assumption) ?_ | refine g_lt_alike_45 ?_ | refine g_lt_alike_48 ?_)
  by_cases ga : wd ws a
  · obtain ⟨za, ru, hw, h14, h64⟩ := hI.w ga
    rw [if_pos ga, if_pos rfl]
    refine e_lt_noWord hI.s ?_
    (first | refine g_lt_alike_0 ?_ | refine g_lt_alike_5 ?_ | refine g_lt_alike_13 ?_ | refine g_lt_alike_21 ?_ | refine g_lt_alike_34 (by assumption) ?_ | refine g_lt_alike_42 (by assumption) (by assumption) ?_ | refine g_lt_alike_45 ?_ | refine g_lt_alike_48 ?_)
    by_cases gb : wd ws b
    · obtain ⟨zb, rv, hv, v14, v64⟩ := hI.w gb
      rw [if_pos ⟨ga, gb⟩] at h
      rw [if_pos gb, if_pos rfl]
      refine e_sh_rowI hI ga ?_
      rw [Int.toNat_natCast]
      (first | refine g_lt_alike_0 ?_ | refine g_lt_alike_5 ?_ | refine g_lt_alike_13 ?_ | refine g_lt_alike_21 ?_ | refine g_lt_alike_34 (by assumption) ?_ | refine g_lt_alike_42 (by assumption) (by assumption) ?_ | refine g_lt_alike_45 ?_ | refine g_lt_alike_48 ?_)
      refine e_sh_rowI hI gb ?_
      rw [Int.toNat_natCast]
      (first | refine g_lt_alike_0 ?_ | refine g_lt_alike_5 ?_ | refine g_lt_alike_13 ?_ | refine g_lt_alike_21 ?_ | refine g_lt_alike_34 (by assumption) ?_ | refine g_lt_alike_42 (by assumption) (by assumption) ?_ | refine g_lt_alike_45 ?_ | refine g_lt_alike_48 ?_)
      refine e_be_sameKind za zb (by unfold cB; simp; omega) (by unfold cB; simp; omega) ru rv hw hv hI.l hI.lo (by omega) (by omega) (fun M1 f1 => ?_)
      (first | refine g_lt_alike_0 ?_ | refine g_lt_alike_5 ?_ | refine g_lt_alike_13 ?_ | refine g_lt_alike_21 ?_ | refine g_lt_alike_34 (by assumption) ?_ | refine g_lt_alike_42 (by assumption) (by assumption) ?_ | refine g_lt_alike_45 ?_ | refine g_lt_alike_48 ?_)
      refine e_lt_answer ?_
      (first | refine g_lt_alike_0 ?_ | refine g_lt_alike_5 ?_ | refine g_lt_alike_13 ?_ | refine g_lt_alike_21 ?_ | refine g_lt_alike_34 (by assumption) ?_ | refine g_lt_alike_42 (by assumption) (by assumption) ?_ | refine g_lt_alike_45 ?_ | refine g_lt_alike_48 ?_)
      have e := h M1 L (hI.fr f1 (by decide)) (f1.aM (by decide))
      by_cases gl : lw P R false (gw ws a) = lw P R false (gw ws b)
      · rw [if_pos gl] at e ⊢; exact e
      · rw [if_neg gl] at e ⊢; exact e
    · rw [if_neg (fun q => gb q.2)] at h
      rw [if_neg gb, if_neg (by decide)]
      (refine e_lt_no (k := 1) hI (by omega) (fun M1 I f => ?_); (first | refine g_lt_alike_0 ?_ | refine g_lt_alike_5 ?_ | refine g_lt_alike_13 ?_ | refine g_lt_alike_21 ?_ | refine g_lt_alike_34 (by assumption) ?_ | refine g_lt_alike_42 (by assumption) (by assumption) ?_ | refine g_lt_alike_45 ?_ | refine g_lt_alike_48 ?_); exact h M1 L I f)
  · rw [if_neg (fun q => ga q.1)] at h
    rw [if_neg ga, if_neg (by decide)]
    (refine e_lt_no (k := 1) hI (by omega) (fun M1 I f => ?_); (first | refine g_lt_alike_0 ?_ | refine g_lt_alike_5 ?_ | refine g_lt_alike_13 ?_ | refine g_lt_alike_21 ?_ | refine g_lt_alike_34 (by assumption) ?_ | refine g_lt_alike_42 (by assumption) (by assumption) ?_ | refine g_lt_alike_45 ?_ | refine g_lt_alike_48 ?_); exact h M1 L I f)
theorem c_lt_blocks {w k : Int} (hI : iC M P R ws tx hs kp ls rf) (h : ∀ M1 L1, jC M1 (opBlocks P R ws tx hs kp ls rf w k).1 → aM M M1 → Q (opBlocks P R ws tx hs kp ls rf w k).2 (SH, M1, L1)) : zEv (d + 9) m_lt_blocks [zR 0, zI w, zI k] (SH, M, L) Q := by
  unfold opBlocks at h
  have z108 := zRow_108
  refine b_lt_blocks ?_
  (first | refine g_lt_blocks_0 ?_ | refine g_lt_blocks_5 ?_ | refine g_lt_blocks_13 ?_ | refine g_lt_blocks_25 ?_ | refine g_lt_blocks_38 (by assumption) ?_ | refine g_lt_blocks_45 ?_ | refine g_lt_blocks_57 ?_ | refine g_lt_blocks_66 ?_ | refine g_lt_blocks_77 ?_)
  refine e_lt_noWord hI.s ?_
  (first | refine g_lt_blocks_0 ?_ | refine g_lt_blocks_5 ?_ | refine g_lt_blocks_13 ?_ | refine g_lt_blocks_25 ?_ | refine g_lt_blocks_38 (by assumption) ?_ | refine g_lt_blocks_45 ?_ | refine g_lt_blocks_57 ?_ | refine g_lt_blocks_66 ?_ | refine g_lt_blocks_77 ?_)
  by_cases g : wd ws w
  · obtain ⟨za, ru, hw, h14, h64⟩ := hI.w g
    rw [if_pos g] at h ⊢
    rw [if_pos rfl]
    by_cases g2 : k < -1
    · rw [if_pos g2] at h ⊢
      (refine e_lt_no (k := 4) hI (by omega) (fun M1 I f => ?_); (first | refine g_lt_blocks_0 ?_ | refine g_lt_blocks_5 ?_ | refine g_lt_blocks_13 ?_ | refine g_lt_blocks_25 ?_ | refine g_lt_blocks_38 (by assumption) ?_ | refine g_lt_blocks_45 ?_ | refine g_lt_blocks_57 ?_ | refine g_lt_blocks_66 ?_ | refine g_lt_blocks_77 ?_); exact h M1 L I f)
    · rw [if_neg g2] at h ⊢
      refine e_sh_rowI hI g ?_
      rw [Int.toNat_natCast]
      (first | refine g_lt_blocks_0 ?_ | refine g_lt_blocks_5 ?_ | refine g_lt_blocks_13 ?_ | refine g_lt_blocks_25 ?_ | refine g_lt_blocks_38 (by assumption) ?_ | refine g_lt_blocks_45 ?_ | refine g_lt_blocks_57 ?_ | refine g_lt_blocks_66 ?_ | refine g_lt_blocks_77 ?_)
      refine e_be_layBlocks za h64 hI.lo hI.l ru hw h14 (fun M1 g1 f1 => ?_)
      have J := hI.D f1
      (first | refine g_lt_blocks_0 ?_ | refine g_lt_blocks_5 ?_ | refine g_lt_blocks_13 ?_ | refine g_lt_blocks_25 ?_ | refine g_lt_blocks_38 (by assumption) ?_ | refine g_lt_blocks_45 ?_ | refine g_lt_blocks_57 ?_ | refine g_lt_blocks_66 ?_ | refine g_lt_blocks_77 ?_)
      by_cases g3 : k = -1
      · rw [if_pos g3] at h ⊢
        refine e_ro_size z108 g1 ?_
        (first | refine g_lt_blocks_0 ?_ | refine g_lt_blocks_5 ?_ | refine g_lt_blocks_13 ?_ | refine g_lt_blocks_25 ?_ | refine g_lt_blocks_38 (by assumption) ?_ | refine g_lt_blocks_45 ?_ | refine g_lt_blocks_57 ?_ | refine g_lt_blocks_66 ?_ | refine g_lt_blocks_77 ?_)
        exact h M1 L J.1 J.2
      · rw [if_neg g3] at h ⊢
        refine e_ro_size z108 g1 ?_
        (first | refine g_lt_blocks_0 ?_ | refine g_lt_blocks_5 ?_ | refine g_lt_blocks_13 ?_ | refine g_lt_blocks_25 ?_ | refine g_lt_blocks_38 (by assumption) ?_ | refine g_lt_blocks_45 ?_ | refine g_lt_blocks_57 ?_ | refine g_lt_blocks_66 ?_ | refine g_lt_blocks_77 ?_)
        have e := h M1 L J.1 J.2
        by_cases g4 : k < ((blks P (gw ws w).length (gw ws w)).length : Int)
        · rw [if_pos g4] at e ⊢
          refine e_ro_get z108 g1 ?_
          (first | refine g_lt_blocks_0 ?_ | refine g_lt_blocks_5 ?_ | refine g_lt_blocks_13 ?_ | refine g_lt_blocks_25 ?_ | refine g_lt_blocks_38 (by assumption) ?_ | refine g_lt_blocks_45 ?_ | refine g_lt_blocks_57 ?_ | refine g_lt_blocks_66 ?_ | refine g_lt_blocks_77 ?_)
          rw [rget_in (by omega)]
          exact e
        · rw [if_neg g4] at e ⊢
          exact e
  · rw [if_neg g] at h ⊢
    rw [if_neg (by decide)]
    (refine e_lt_no (k := 1) hI (by omega) (fun M1 I f => ?_); (first | refine g_lt_blocks_0 ?_ | refine g_lt_blocks_5 ?_ | refine g_lt_blocks_13 ?_ | refine g_lt_blocks_25 ?_ | refine g_lt_blocks_38 (by assumption) ?_ | refine g_lt_blocks_45 ?_ | refine g_lt_blocks_57 ?_ | refine g_lt_blocks_66 ?_ | refine g_lt_blocks_77 ?_); exact h M1 L I f)
theorem c_lt_least {w i x : Int} (hI : iC M P R ws tx hs kp ls rf) (h : ∀ M1 L1, jC M1 (opLeast P R ws tx hs kp ls rf w i x).1 → aM M M1 → Q (opLeast P R ws tx hs kp ls rf w i x).2 (SH, M1, L1)) : zEv (d + 9) m_lt_least [zR 0, zI w, zI i, zI x] (SH, M, L) Q := by
  unfold opLeast at h
  have z108 := zRow_108
  refine b_lt_least ?_
  (first | refine g_lt_least_0 ?_ | refine g_lt_least_5 ?_ | refine g_lt_least_13 ?_ | refine g_lt_least_24 ?_ | refine g_lt_least_29 ?_ | refine g_lt_least_38 ?_ | refine g_lt_least_51 (by assumption) ?_ | refine g_lt_least_68 ?_ | refine g_lt_least_76 ?_)
  refine e_lt_noWord hI.s ?_
  (first | refine g_lt_least_0 ?_ | refine g_lt_least_5 ?_ | refine g_lt_least_13 ?_ | refine g_lt_least_24 ?_ | refine g_lt_least_29 ?_ | refine g_lt_least_38 ?_ | refine g_lt_least_51 (by assumption) ?_ | refine g_lt_least_68 ?_ | refine g_lt_least_76 ?_)
  by_cases g : wd ws w
  · obtain ⟨za, ru, hw, h14, h64⟩ := hI.w g
    rw [if_pos g] at h ⊢
    rw [if_pos rfl]
    by_cases g2 : i < 0
    · rw [if_pos g2] at h ⊢
      (refine e_lt_no (k := 4) hI (by omega) (fun M1 I f => ?_); (first | refine g_lt_least_0 ?_ | refine g_lt_least_5 ?_ | refine g_lt_least_13 ?_ | refine g_lt_least_24 ?_ | refine g_lt_least_29 ?_ | refine g_lt_least_38 ?_ | refine g_lt_least_51 (by assumption) ?_ | refine g_lt_least_68 ?_ | refine g_lt_least_76 ?_); exact h M1 L I f)
    · rw [if_neg g2] at h ⊢
      refine e_lt_noSuch ?_
      (first | refine g_lt_least_0 ?_ | refine g_lt_least_5 ?_ | refine g_lt_least_13 ?_ | refine g_lt_least_24 ?_ | refine g_lt_least_29 ?_ | refine g_lt_least_38 ?_ | refine g_lt_least_51 (by assumption) ?_ | refine g_lt_least_68 ?_ | refine g_lt_least_76 ?_)
      by_cases g3 : x = 0 ∨ x = 1
      · rw [if_pos g3] at h ⊢
        rw [if_pos rfl]
        refine e_sh_rowI hI g ?_
        rw [Int.toNat_natCast]
        (first | refine g_lt_least_0 ?_ | refine g_lt_least_5 ?_ | refine g_lt_least_13 ?_ | refine g_lt_least_24 ?_ | refine g_lt_least_29 ?_ | refine g_lt_least_38 ?_ | refine g_lt_least_51 (by assumption) ?_ | refine g_lt_least_68 ?_ | refine g_lt_least_76 ?_)
        by_cases g4 : x = 1
        · rw [if_pos g4]
          rw [decide_eq_true g4] at h
          refine e_be_arrange (last := true) za z108 (by omega) (by omega) ru hw hI.l hI.lo (by omega) (by rw [zc108]; omega) (fun M1 g1 f1 => ?_)
          (first | refine g_lt_least_0 ?_ | refine g_lt_least_5 ?_ | refine g_lt_least_13 ?_ | refine g_lt_least_24 ?_ | refine g_lt_least_29 ?_ | refine g_lt_least_38 ?_ | refine g_lt_least_51 (by assumption) ?_ | refine g_lt_least_68 ?_ | refine g_lt_least_76 ?_)
          refine e_ro_get z108 g1 ?_
          (first | refine g_lt_least_0 ?_ | refine g_lt_least_5 ?_ | refine g_lt_least_13 ?_ | refine g_lt_least_24 ?_ | refine g_lt_least_29 ?_ | refine g_lt_least_38 ?_ | refine g_lt_least_51 (by assumption) ?_ | refine g_lt_least_68 ?_ | refine g_lt_least_76 ?_)
          have J := hI.D (f1.up (by decide))
          exact h M1 L J.1 J.2
        · rw [if_neg g4]
          rw [decide_eq_false g4] at h
          refine e_be_arrange (last := false) za z108 (by omega) (by omega) ru hw hI.l hI.lo (by omega) (by rw [zc108]; omega) (fun M1 g1 f1 => ?_)
          (first | refine g_lt_least_0 ?_ | refine g_lt_least_5 ?_ | refine g_lt_least_13 ?_ | refine g_lt_least_24 ?_ | refine g_lt_least_29 ?_ | refine g_lt_least_38 ?_ | refine g_lt_least_51 (by assumption) ?_ | refine g_lt_least_68 ?_ | refine g_lt_least_76 ?_)
          refine e_ro_get z108 g1 ?_
          (first | refine g_lt_least_0 ?_ | refine g_lt_least_5 ?_ | refine g_lt_least_13 ?_ | refine g_lt_least_24 ?_ | refine g_lt_least_29 ?_ | refine g_lt_least_38 ?_ | refine g_lt_least_51 (by assumption) ?_ | refine g_lt_least_68 ?_ | refine g_lt_least_76 ?_)
          have J := hI.D (f1.up (by decide))
          exact h M1 L J.1 J.2
      · rw [if_neg g3] at h ⊢
        rw [if_neg (by decide)]
        (refine e_lt_no (k := 2) hI (by omega) (fun M1 I f => ?_); (first | refine g_lt_least_0 ?_ | refine g_lt_least_5 ?_ | refine g_lt_least_13 ?_ | refine g_lt_least_24 ?_ | refine g_lt_least_29 ?_ | refine g_lt_least_38 ?_ | refine g_lt_least_51 (by assumption) ?_ | refine g_lt_least_68 ?_ | refine g_lt_least_76 ?_); exact h M1 L I f)
  · rw [if_neg g] at h ⊢
    rw [if_neg (by decide)]
    (refine e_lt_no (k := 1) hI (by omega) (fun M1 I f => ?_); (first | refine g_lt_least_0 ?_ | refine g_lt_least_5 ?_ | refine g_lt_least_13 ?_ | refine g_lt_least_24 ?_ | refine g_lt_least_29 ?_ | refine g_lt_least_38 ?_ | refine g_lt_least_51 (by assumption) ?_ | refine g_lt_least_68 ?_ | refine g_lt_least_76 ?_); exact h M1 L I f)
theorem c_lt_seen {w a b i : Int} (hI : iC M P R ws tx hs kp ls rf) (h : ∀ M1 L1, jC M1 (opSeen P R ws tx hs kp ls rf w a b i).1 → aM M M1 → Q (opSeen P R ws tx hs kp ls rf w a b i).2 (SH, M1, L1)) : zEv (d + 9) m_lt_seen [zR 0, zI w, zI a, zI b, zI i] (SH, M, L) Q := by
  unfold opSeen at h
  have z108 := zRow_108
  refine b_lt_seen ?_
  (first | refine g_lt_seen_0 ?_ | refine g_lt_seen_5 ?_ | refine g_lt_seen_12 ?_ | refine g_lt_seen_19 ?_ | refine g_lt_seen_27 ?_ | refine g_lt_seen_39 ?_ | refine g_lt_seen_47 ?_ | refine g_lt_seen_59 (by assumption) ?_ | refine g_lt_seen_69 ?_ | refine g_lt_seen_78 ?_)
  refine e_lt_noWord hI.s ?_
  (first | refine g_lt_seen_0 ?_ | refine g_lt_seen_5 ?_ | refine g_lt_seen_12 ?_ | refine g_lt_seen_19 ?_ | refine g_lt_seen_27 ?_ | refine g_lt_seen_39 ?_ | refine g_lt_seen_47 ?_ | refine g_lt_seen_59 (by assumption) ?_ | refine g_lt_seen_69 ?_ | refine g_lt_seen_78 ?_)
  by_cases g : wd ws w
  · obtain ⟨za, ru, hw, h14, h64⟩ := hI.w g
    rw [if_pos g, if_pos rfl]
    refine e_lt_noLetter ?_
    (first | refine g_lt_seen_0 ?_ | refine g_lt_seen_5 ?_ | refine g_lt_seen_12 ?_ | refine g_lt_seen_19 ?_ | refine g_lt_seen_27 ?_ | refine g_lt_seen_39 ?_ | refine g_lt_seen_47 ?_ | refine g_lt_seen_59 (by assumption) ?_ | refine g_lt_seen_69 ?_ | refine g_lt_seen_78 ?_)
    by_cases ga : lt6 a
    · rw [if_pos ga, if_pos rfl]
      refine e_lt_noLetter ?_
      (first | refine g_lt_seen_0 ?_ | refine g_lt_seen_5 ?_ | refine g_lt_seen_12 ?_ | refine g_lt_seen_19 ?_ | refine g_lt_seen_27 ?_ | refine g_lt_seen_39 ?_ | refine g_lt_seen_47 ?_ | refine g_lt_seen_59 (by assumption) ?_ | refine g_lt_seen_69 ?_ | refine g_lt_seen_78 ?_)
      by_cases gb : lt6 b
      · rw [if_pos ⟨g, ga, gb⟩] at h
        rw [if_pos gb, if_pos rfl]
        by_cases g2 : i < 0
        · rw [if_pos g2] at h ⊢
          (refine e_lt_no (k := 4) hI (by omega) (fun M1 I f => ?_); (first | refine g_lt_seen_0 ?_ | refine g_lt_seen_5 ?_ | refine g_lt_seen_12 ?_ | refine g_lt_seen_19 ?_ | refine g_lt_seen_27 ?_ | refine g_lt_seen_39 ?_ | refine g_lt_seen_47 ?_ | refine g_lt_seen_59 (by assumption) ?_ | refine g_lt_seen_69 ?_ | refine g_lt_seen_78 ?_); exact h M1 L I f)
        · rw [if_neg g2] at h ⊢
          refine e_ro_clear z108 (fun M1 g1 f1 => ?_)
          have J := hI.D (f1.c (by decide) (by decide))
          obtain ⟨_, ru, _⟩ := J.1.w g
          (first | refine g_lt_seen_0 ?_ | refine g_lt_seen_5 ?_ | refine g_lt_seen_12 ?_ | refine g_lt_seen_19 ?_ | refine g_lt_seen_27 ?_ | refine g_lt_seen_39 ?_ | refine g_lt_seen_47 ?_ | refine g_lt_seen_59 (by assumption) ?_ | refine g_lt_seen_69 ?_ | refine g_lt_seen_78 ?_)
          refine e_sh_rowI J.1 g ?_
          rw [Int.toNat_natCast]
          (first | refine g_lt_seen_0 ?_ | refine g_lt_seen_5 ?_ | refine g_lt_seen_12 ?_ | refine g_lt_seen_19 ?_ | refine g_lt_seen_27 ?_ | refine g_lt_seen_39 ?_ | refine g_lt_seen_47 ?_ | refine g_lt_seen_59 (by assumption) ?_ | refine g_lt_seen_69 ?_ | refine g_lt_seen_78 ?_)
          have ea := p6 (a := a.toNat) (by omega)
          have eb := p6 (a := b.toNat) (by omega)
          rw [zshl_1 ga.1 (by omega), zshl_1 gb.1 (by omega), zor_nat (by omega) (by omega)]
          refine e_ro_appendOnly (Nat.or_lt_two_pow (n := 6) (by omega) (by omega)) z108 za (by omega) g1 ru hw (by rw [zc108]; omega) (fun M2 g2 f2 => ?_)
          (first | refine g_lt_seen_0 ?_ | refine g_lt_seen_5 ?_ | refine g_lt_seen_12 ?_ | refine g_lt_seen_19 ?_ | refine g_lt_seen_27 ?_ | refine g_lt_seen_39 ?_ | refine g_lt_seen_47 ?_ | refine g_lt_seen_59 (by assumption) ?_ | refine g_lt_seen_69 ?_ | refine g_lt_seen_78 ?_)
          refine e_ro_get z108 g2 ?_
          (first | refine g_lt_seen_0 ?_ | refine g_lt_seen_5 ?_ | refine g_lt_seen_12 ?_ | refine g_lt_seen_19 ?_ | refine g_lt_seen_27 ?_ | refine g_lt_seen_39 ?_ | refine g_lt_seen_47 ?_ | refine g_lt_seen_59 (by assumption) ?_ | refine g_lt_seen_69 ?_ | refine g_lt_seen_78 ?_)
          have J2 := J.1.D (f2.c (by decide) (by decide))
          have ef : (gw ws w).filter (fun a_1 => (2 ^ a.toNat ||| 2 ^ b.toNat).testBit a_1.toNat) = (gw ws w).filter (fun c => decide (c = a ∨ c = b)) := by
            refine List.filter_congr (fun c hc => ?_)
            have := hw c hc
            rw [Nat.testBit_or, Nat.testBit_two_pow, Nat.testBit_two_pow, ← Bool.decide_or]
            exact decide_eq_decide.mpr (by omega)
          rw [ef]
          exact h M2 L J2.1 (J.2.tr J2.2)
      · rw [if_neg (fun q => gb q.2.2)] at h
        rw [if_neg gb, if_neg (by decide)]
        (refine e_lt_no (k := 1) hI (by omega) (fun M1 I f => ?_); (first | refine g_lt_seen_0 ?_ | refine g_lt_seen_5 ?_ | refine g_lt_seen_12 ?_ | refine g_lt_seen_19 ?_ | refine g_lt_seen_27 ?_ | refine g_lt_seen_39 ?_ | refine g_lt_seen_47 ?_ | refine g_lt_seen_59 (by assumption) ?_ | refine g_lt_seen_69 ?_ | refine g_lt_seen_78 ?_); exact h M1 L I f)
    · rw [if_neg (fun q => ga q.2.1)] at h
      rw [if_neg ga, if_neg (by decide)]
      (refine e_lt_no (k := 1) hI (by omega) (fun M1 I f => ?_); (first | refine g_lt_seen_0 ?_ | refine g_lt_seen_5 ?_ | refine g_lt_seen_12 ?_ | refine g_lt_seen_19 ?_ | refine g_lt_seen_27 ?_ | refine g_lt_seen_39 ?_ | refine g_lt_seen_47 ?_ | refine g_lt_seen_59 (by assumption) ?_ | refine g_lt_seen_69 ?_ | refine g_lt_seen_78 ?_); exact h M1 L I f)
  · rw [if_neg (fun q => g q.1)] at h
    rw [if_neg g, if_neg (by decide)]
    (refine e_lt_no (k := 1) hI (by omega) (fun M1 I f => ?_); (first | refine g_lt_seen_0 ?_ | refine g_lt_seen_5 ?_ | refine g_lt_seen_12 ?_ | refine g_lt_seen_19 ?_ | refine g_lt_seen_27 ?_ | refine g_lt_seen_39 ?_ | refine g_lt_seen_47 ?_ | refine g_lt_seen_59 (by assumption) ?_ | refine g_lt_seen_69 ?_ | refine g_lt_seen_78 ?_); exact h M1 L I f)
theorem c_lt_begins {v u i : Int} (hI : iC M P R ws tx hs kp ls rf) (h : ∀ M1 L1, jC M1 (opBegins P R ws tx hs kp ls rf v u i).1 → aM M M1 → Q (opBegins P R ws tx hs kp ls rf v u i).2 (SH, M1, L1)) : zEv (d + 9) m_lt_begins [zR 0, zI v, zI u, zI i] (SH, M, L) Q := by
  unfold opBegins at h
  have z108 := zRow_108
  refine b_lt_begins ?_
  (first | refine g_lt_begins_0 ?_ | refine g_lt_begins_5 ?_ | refine g_lt_begins_13 ?_ | refine g_lt_begins_21 ?_ | refine g_lt_begins_33 ?_ | refine g_lt_begins_46 (by assumption) ?_ | refine g_lt_begins_54 (by assumption) (by assumption) ?_ | refine g_lt_begins_61 ?_ | refine g_lt_begins_73 ?_ | refine g_lt_begins_87 ?_)
  refine e_lt_noWord hI.s ?_
  (first | refine g_lt_begins_0 ?_ | refine g_lt_begins_5 ?_ | refine g_lt_begins_13 ?_ | refine g_lt_begins_21 ?_ | refine g_lt_begins_33 ?_ | refine g_lt_begins_46 (by assumption) ?_ | refine g_lt_begins_54 (by assumption) (by assumption) ?_ | refine g_lt_begins_61 ?_ | refine g_lt_begins_73 ?_ | refine g_lt_begins_87 ?_)
  by_cases ga : wd ws v
  · obtain ⟨za, ru, hw, h14, h64⟩ := hI.w ga
    rw [if_pos ga, if_pos rfl]
    refine e_lt_noWord hI.s ?_
    (first | refine g_lt_begins_0 ?_ | refine g_lt_begins_5 ?_ | refine g_lt_begins_13 ?_ | refine g_lt_begins_21 ?_ | refine g_lt_begins_33 ?_ | refine g_lt_begins_46 (by assumption) ?_ | refine g_lt_begins_54 (by assumption) (by assumption) ?_ | refine g_lt_begins_61 ?_ | refine g_lt_begins_73 ?_ | refine g_lt_begins_87 ?_)
    by_cases gb : wd ws u
    · obtain ⟨zb, rv, hv, v14, v64⟩ := hI.w gb
      rw [if_pos ⟨ga, gb⟩] at h
      rw [if_pos gb, if_pos rfl]
      by_cases g2 : i < -1
      · rw [if_pos g2] at h ⊢
        (refine e_lt_no (k := 4) hI (by omega) (fun M1 I f => ?_); (first | refine g_lt_begins_0 ?_ | refine g_lt_begins_5 ?_ | refine g_lt_begins_13 ?_ | refine g_lt_begins_21 ?_ | refine g_lt_begins_33 ?_ | refine g_lt_begins_46 (by assumption) ?_ | refine g_lt_begins_54 (by assumption) (by assumption) ?_ | refine g_lt_begins_61 ?_ | refine g_lt_begins_73 ?_ | refine g_lt_begins_87 ?_); exact h M1 L I f)
      · rw [if_neg g2] at h ⊢
        refine e_sh_rowI hI ga ?_
        rw [Int.toNat_natCast]
        (first | refine g_lt_begins_0 ?_ | refine g_lt_begins_5 ?_ | refine g_lt_begins_13 ?_ | refine g_lt_begins_21 ?_ | refine g_lt_begins_33 ?_ | refine g_lt_begins_46 (by assumption) ?_ | refine g_lt_begins_54 (by assumption) (by assumption) ?_ | refine g_lt_begins_61 ?_ | refine g_lt_begins_73 ?_ | refine g_lt_begins_87 ?_)
        refine e_sh_rowI hI gb ?_
        rw [Int.toNat_natCast]
        (first | refine g_lt_begins_0 ?_ | refine g_lt_begins_5 ?_ | refine g_lt_begins_13 ?_ | refine g_lt_begins_21 ?_ | refine g_lt_begins_33 ?_ | refine g_lt_begins_46 (by assumption) ?_ | refine g_lt_begins_54 (by assumption) (by assumption) ?_ | refine g_lt_begins_61 ?_ | refine g_lt_begins_73 ?_ | refine g_lt_begins_87 ?_)
        refine e_be_takeBeginning za h64 zb v64 hI.lo hI.l rv hv ru hw h14 (fun q M1 f1 => ?_) (fun x q M1 g1 f1 => ?_)
        · have J := hI.D f1
          have e := h M1 L
          rw [q] at e
          have e := e J.1 J.2
          (first | refine g_lt_begins_0 ?_ | refine g_lt_begins_5 ?_ | refine g_lt_begins_13 ?_ | refine g_lt_begins_21 ?_ | refine g_lt_begins_33 ?_ | refine g_lt_begins_46 (by assumption) ?_ | refine g_lt_begins_54 (by assumption) (by assumption) ?_ | refine g_lt_begins_61 ?_ | refine g_lt_begins_73 ?_ | refine g_lt_begins_87 ?_)
          by_cases g3 : i = -1
          · rw [if_pos g3]
            refine e_lt_answer ?_
            (first | refine g_lt_begins_0 ?_ | refine g_lt_begins_5 ?_ | refine g_lt_begins_13 ?_ | refine g_lt_begins_21 ?_ | refine g_lt_begins_33 ?_ | refine g_lt_begins_46 (by assumption) ?_ | refine g_lt_begins_54 (by assumption) (by assumption) ?_ | refine g_lt_begins_61 ?_ | refine g_lt_begins_73 ?_ | refine g_lt_begins_87 ?_)
            simp only [if_pos g3] at e
            exact e
          · rw [if_neg g3, if_pos rfl]
            simp only [if_neg g3] at e
            exact e
        · have J := hI.D f1
          have e := h M1 L
          rw [q] at e
          have e := e J.1 J.2
          (first | refine g_lt_begins_0 ?_ | refine g_lt_begins_5 ?_ | refine g_lt_begins_13 ?_ | refine g_lt_begins_21 ?_ | refine g_lt_begins_33 ?_ | refine g_lt_begins_46 (by assumption) ?_ | refine g_lt_begins_54 (by assumption) (by assumption) ?_ | refine g_lt_begins_61 ?_ | refine g_lt_begins_73 ?_ | refine g_lt_begins_87 ?_)
          by_cases g3 : i = -1
          · rw [if_pos g3]
            refine e_lt_answer ?_
            (first | refine g_lt_begins_0 ?_ | refine g_lt_begins_5 ?_ | refine g_lt_begins_13 ?_ | refine g_lt_begins_21 ?_ | refine g_lt_begins_33 ?_ | refine g_lt_begins_46 (by assumption) ?_ | refine g_lt_begins_54 (by assumption) (by assumption) ?_ | refine g_lt_begins_61 ?_ | refine g_lt_begins_73 ?_ | refine g_lt_begins_87 ?_)
            simp only [if_pos g3] at e
            exact e
          · rw [if_neg g3, if_neg (by decide)]
            refine e_ro_get z108 g1 ?_
            (first | refine g_lt_begins_0 ?_ | refine g_lt_begins_5 ?_ | refine g_lt_begins_13 ?_ | refine g_lt_begins_21 ?_ | refine g_lt_begins_33 ?_ | refine g_lt_begins_46 (by assumption) ?_ | refine g_lt_begins_54 (by assumption) (by assumption) ?_ | refine g_lt_begins_61 ?_ | refine g_lt_begins_73 ?_ | refine g_lt_begins_87 ?_)
            simp only [if_neg g3] at e
            exact e
    · rw [if_neg (fun q => gb q.2)] at h
      rw [if_neg gb, if_neg (by decide)]
      (refine e_lt_no (k := 1) hI (by omega) (fun M1 I f => ?_); (first | refine g_lt_begins_0 ?_ | refine g_lt_begins_5 ?_ | refine g_lt_begins_13 ?_ | refine g_lt_begins_21 ?_ | refine g_lt_begins_33 ?_ | refine g_lt_begins_46 (by assumption) ?_ | refine g_lt_begins_54 (by assumption) (by assumption) ?_ | refine g_lt_begins_61 ?_ | refine g_lt_begins_73 ?_ | refine g_lt_begins_87 ?_); exact h M1 L I f)
  · rw [if_neg (fun q => ga q.1)] at h
    rw [if_neg ga, if_neg (by decide)]
    (refine e_lt_no (k := 1) hI (by omega) (fun M1 I f => ?_); (first | refine g_lt_begins_0 ?_ | refine g_lt_begins_5 ?_ | refine g_lt_begins_13 ?_ | refine g_lt_begins_21 ?_ | refine g_lt_begins_33 ?_ | refine g_lt_begins_46 (by assumption) ?_ | refine g_lt_begins_54 (by assumption) (by assumption) ?_ | refine g_lt_begins_61 ?_ | refine g_lt_begins_73 ?_ | refine g_lt_begins_87 ?_); exact h M1 L I f)
theorem c_lt_common {u v i : Int} (hI : iC M P R ws tx hs kp ls rf) (h : ∀ M1 L1, jC M1 (opCommon P R ws tx hs kp ls rf u v i).1 → aM M M1 → Q (opCommon P R ws tx hs kp ls rf u v i).2 (SH, M1, L1)) : zEv (d + 9) m_lt_common [zR 0, zI u, zI v, zI i] (SH, M, L) Q := by
  unfold opCommon at h
  have z108 := zRow_108
  refine b_lt_common ?_
  (first | refine g_lt_common_0 ?_ | refine g_lt_common_5 ?_ | refine g_lt_common_13 ?_ | refine g_lt_common_21 ?_ | refine g_lt_common_33 ?_ | refine g_lt_common_46 (by assumption) ?_ | refine g_lt_common_54 (by assumption) (by assumption) ?_ | refine g_lt_common_61 ?_ | refine g_lt_common_69 ?_)
  refine e_lt_noWord hI.s ?_
  (first | refine g_lt_common_0 ?_ | refine g_lt_common_5 ?_ | refine g_lt_common_13 ?_ | refine g_lt_common_21 ?_ | refine g_lt_common_33 ?_ | refine g_lt_common_46 (by assumption) ?_ | refine g_lt_common_54 (by assumption) (by assumption) ?_ | refine g_lt_common_61 ?_ | refine g_lt_common_69 ?_)
  by_cases ga : wd ws u
  · obtain ⟨za, ru, hw, h14, h64⟩ := hI.w ga
    rw [if_pos ga, if_pos rfl]
    refine e_lt_noWord hI.s ?_
    (first | refine g_lt_common_0 ?_ | refine g_lt_common_5 ?_ | refine g_lt_common_13 ?_ | refine g_lt_common_21 ?_ | refine g_lt_common_33 ?_ | refine g_lt_common_46 (by assumption) ?_ | refine g_lt_common_54 (by assumption) (by assumption) ?_ | refine g_lt_common_61 ?_ | refine g_lt_common_69 ?_)
    by_cases gb : wd ws v
    · obtain ⟨zb, rv, hv, v14, v64⟩ := hI.w gb
      rw [if_pos ⟨ga, gb⟩] at h
      rw [if_pos gb, if_pos rfl]
      by_cases g2 : i < -1
      · rw [if_pos g2] at h ⊢
        (refine e_lt_no (k := 4) hI (by omega) (fun M1 I f => ?_); (first | refine g_lt_common_0 ?_ | refine g_lt_common_5 ?_ | refine g_lt_common_13 ?_ | refine g_lt_common_21 ?_ | refine g_lt_common_33 ?_ | refine g_lt_common_46 (by assumption) ?_ | refine g_lt_common_54 (by assumption) (by assumption) ?_ | refine g_lt_common_61 ?_ | refine g_lt_common_69 ?_); exact h M1 L I f)
      · rw [if_neg g2] at h ⊢
        refine e_sh_rowI hI ga ?_
        rw [Int.toNat_natCast]
        (first | refine g_lt_common_0 ?_ | refine g_lt_common_5 ?_ | refine g_lt_common_13 ?_ | refine g_lt_common_21 ?_ | refine g_lt_common_33 ?_ | refine g_lt_common_46 (by assumption) ?_ | refine g_lt_common_54 (by assumption) (by assumption) ?_ | refine g_lt_common_61 ?_ | refine g_lt_common_69 ?_)
        refine e_sh_rowI hI gb ?_
        rw [Int.toNat_natCast]
        (first | refine g_lt_common_0 ?_ | refine g_lt_common_5 ?_ | refine g_lt_common_13 ?_ | refine g_lt_common_21 ?_ | refine g_lt_common_33 ?_ | refine g_lt_common_46 (by assumption) ?_ | refine g_lt_common_54 (by assumption) (by assumption) ?_ | refine g_lt_common_61 ?_ | refine g_lt_common_69 ?_)
        refine e_be_takeCommon za h64 zb v64 hI.lo hI.l ru hw h14 rv hv v14 (fun M1 g1 f1 => ?_)
        have J := hI.D f1
        (first | refine g_lt_common_0 ?_ | refine g_lt_common_5 ?_ | refine g_lt_common_13 ?_ | refine g_lt_common_21 ?_ | refine g_lt_common_33 ?_ | refine g_lt_common_46 (by assumption) ?_ | refine g_lt_common_54 (by assumption) (by assumption) ?_ | refine g_lt_common_61 ?_ | refine g_lt_common_69 ?_)
        refine e_lt_sizeOrCell z108 g1 ?_
        (first | refine g_lt_common_0 ?_ | refine g_lt_common_5 ?_ | refine g_lt_common_13 ?_ | refine g_lt_common_21 ?_ | refine g_lt_common_33 ?_ | refine g_lt_common_46 (by assumption) ?_ | refine g_lt_common_54 (by assumption) (by assumption) ?_ | refine g_lt_common_61 ?_ | refine g_lt_common_69 ?_)
        rw [lw_len]
        exact h M1 L J.1 J.2
    · rw [if_neg (fun q => gb q.2)] at h
      rw [if_neg gb, if_neg (by decide)]
      (refine e_lt_no (k := 1) hI (by omega) (fun M1 I f => ?_); (first | refine g_lt_common_0 ?_ | refine g_lt_common_5 ?_ | refine g_lt_common_13 ?_ | refine g_lt_common_21 ?_ | refine g_lt_common_33 ?_ | refine g_lt_common_46 (by assumption) ?_ | refine g_lt_common_54 (by assumption) (by assumption) ?_ | refine g_lt_common_61 ?_ | refine g_lt_common_69 ?_); exact h M1 L I f)
  · rw [if_neg (fun q => ga q.1)] at h
    rw [if_neg ga, if_neg (by decide)]
    (refine e_lt_no (k := 1) hI (by omega) (fun M1 I f => ?_); (first | refine g_lt_common_0 ?_ | refine g_lt_common_5 ?_ | refine g_lt_common_13 ?_ | refine g_lt_common_21 ?_ | refine g_lt_common_33 ?_ | refine g_lt_common_46 (by assumption) ?_ | refine g_lt_common_54 (by assumption) (by assumption) ?_ | refine g_lt_common_61 ?_ | refine g_lt_common_69 ?_); exact h M1 L I f)
end PC
