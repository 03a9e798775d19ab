/-! the reference's calls -/
section MY
variable {d : Nat} {M M' L : zM} {Q : Int → zW → Prop} {P R : Nat → Nat} {ws : List (List Int)} {tx : List Int} {hs : List zLw} {kp : zKp} {ls : Nat → Option (List Int)} {rf : Nat → Int}
theorem c_mo_at {w i : Int} (hI : iM M P R ws tx hs kp ls rf) (h : ∀ M1 L1, jM M1 (opAt P R ws tx hs kp ls rf w i).1 → aC M M1 → Q (opAt P R ws tx hs kp ls rf w i).2 (SH, M1, L1)) : zEv (d + 9) m_mo_at [zR 112, zI w, zI i] (SH, M, L) Q := by
  unfold opAt at h
  refine b_mo_at ?_
  (first | refine g_mo_at_0 ?_ | refine g_mo_at_5 ?_ | refine g_mo_at_13 ?_ | refine g_mo_at_25 ?_)
  refine e_mo_isWord hI.s ?_
  (first | refine g_mo_at_0 ?_ | refine g_mo_at_5 ?_ | refine g_mo_at_13 ?_ | refine g_mo_at_25 ?_)
  by_cases g : wd ws w
  · obtain ⟨w1, w2, w3, w4, w5⟩ := hI.w g
    rw [if_pos g] at h ⊢
    rw [if_neg (by decide)]
    by_cases g2 : i < -1
    · rw [if_pos g2] at h ⊢
      (refine e_mo_noI (k := 4) hI (by omega) (fun M1 I f => ?_); (first | refine g_mo_at_0 ?_ | refine g_mo_at_5 ?_ | refine g_mo_at_13 ?_ | refine g_mo_at_25 ?_); exact h M1 L I f)
    · rw [if_neg g2] at h ⊢
      have e := h M L hI aC.r0
      rw [w1]
      by_cases g3 : i = -1
      · rw [if_pos g3] at e ⊢
        simp (disch := omega) only [zck_t, if_pos, if_neg, if_true, if_false, zwr_id, Int.toNat_natCast]
        exact e
      · rw [if_neg g3] at e ⊢
        by_cases g4 : i < ((gw ws w).length : Int)
        · rw [rget_in (by omega)] at e
          simp (disch := omega) only [zck_t, if_pos, if_neg, if_true, if_false, zwr_id, Int.toNat_natCast]
          rw [show (14 * w + i).toNat = 14 * w.toNat + i.toNat by omega, w4 _ (by omega)]
          exact e
        · rw [rget_out (by omega)] at e
          simp (disch := omega) only [zck_t, if_pos, if_neg, if_true, if_false, zwr_id, Int.toNat_natCast]
          exact e
  · rw [if_neg g] at h ⊢
    rw [if_pos rfl]
    (refine e_mo_noI (k := 1) hI (by omega) (fun M1 I f => ?_); (first | refine g_mo_at_0 ?_ | refine g_mo_at_5 ?_ | refine g_mo_at_13 ?_ | refine g_mo_at_25 ?_); exact h M1 L I f)
theorem c_mo_of {a what : Int} (hI : iM M P R ws tx hs kp ls rf) (h : ∀ M1 L1, jM M1 (opOf P R ws tx hs kp ls rf a what).1 → aC M M1 → Q (opOf P R ws tx hs kp ls rf a what).2 (SH, M1, L1)) : zEv (d + 9) m_mo_of [zR 112, zI a, zI what] (SH, M, L) Q := by
  unfold opOf at h
  refine b_mo_of ?_
  (first | refine g_mo_of_0 ?_ | refine g_mo_of_4 ?_ | refine g_mo_of_12 ?_ | refine g_mo_of_19 ?_ | refine g_mo_of_28 ?_)
  refine e_mo_isLetter ?_
  (first | refine g_mo_of_0 ?_ | refine g_mo_of_4 ?_ | refine g_mo_of_12 ?_ | refine g_mo_of_19 ?_ | refine g_mo_of_28 ?_)
  by_cases g : lt6 a
  · rw [if_pos g] at h ⊢
    rw [if_neg (by decide)]
    refine e_mo_isIn ?_
    (first | refine g_mo_of_0 ?_ | refine g_mo_of_4 ?_ | refine g_mo_of_12 ?_ | refine g_mo_of_19 ?_ | refine g_mo_of_28 ?_)
    obtain ⟨l1, l2⟩ := hI.l a.toNat (by omega)
    rw [show M 114 a.toNat = _ from l2, show M 113 a.toNat = _ from l1]
    by_cases g2 : what = 0
    · rw [if_pos g2] at h
      simp (disch := omega) only [zck_t, if_pos, if_neg, if_true, if_false, zwr_id, Int.toNat_natCast]
      exact h M L hI aC.r0
    · rw [if_neg g2] at h
      by_cases g3 : what = 1
      · rw [if_pos g3] at h
        simp (disch := omega) only [zck_t, if_pos, if_neg, if_true, if_false, zwr_id, Int.toNat_natCast]
        exact h M L hI aC.r0
      · rw [if_neg g3] at h
        simp (disch := omega) only [zck_t, if_pos, if_neg, if_true, if_false, zwr_id, Int.toNat_natCast]
        (refine e_mo_noI (k := 2) hI (by omega) (fun M1 I f => ?_); (first | refine g_mo_of_0 ?_ | refine g_mo_of_4 ?_ | refine g_mo_of_12 ?_ | refine g_mo_of_19 ?_ | refine g_mo_of_28 ?_); exact h M1 L I f)
  · rw [if_neg g] at h ⊢
    rw [if_pos rfl]
    (refine e_mo_noI (k := 1) hI (by omega) (fun M1 I f => ?_); (first | refine g_mo_of_0 ?_ | refine g_mo_of_4 ?_ | refine g_mo_of_12 ?_ | refine g_mo_of_19 ?_ | refine g_mo_of_28 ?_); exact h M1 L I f)
theorem c_mo_letter {c : Int} (hI : iM M P R ws tx hs kp ls rf) (h : ∀ M1 L1, jM M1 (opLetter P R ws tx hs kp ls rf c).1 → aC M M1 → Q (opLetter P R ws tx hs kp ls rf c).2 (SH, M1, L1)) : zEv (d + 9) m_mo_letter [zR 112, zI c] (SH, M, L) Q := by
  unfold opLetter at h
  refine b_mo_letter ?_
  (first | refine g_mo_letter_0 ?_ | refine g_mo_letter_10 ?_ | refine g_mo_letter_33 ?_)
  obtain ⟨t1, t2, t3, t4⟩ := hI.t
  have e1 : ∀ (j : Nat) (v : Int), zmu M 118 j v 112 7 = (tx.length : Int) := fun j v => by rw [zmu_k (by decide), t1]
  simp only [e1, t1, zmu_s]
  by_cases g : c < 0
  · rw [if_pos g] at h ⊢
    (refine e_mo_noI (k := 4) hI (by omega) (fun M1 I f => ?_); (first | refine g_mo_letter_0 ?_ | refine g_mo_letter_10 ?_ | refine g_mo_letter_33 ?_); exact h M1 L I f)
  · rw [if_neg g] at h ⊢
    by_cases g2 : 255 < c
    · rw [if_pos (Or.inl g2)] at h
      rw [if_pos g2]
      (refine e_mo_noI (k := 6) hI (by omega) (fun M1 I f => ?_); (first | refine g_mo_letter_0 ?_ | refine g_mo_letter_10 ?_ | refine g_mo_letter_33 ?_); exact h M1 L I f)
    · rw [if_neg g2]
      by_cases g3 : tx.length = 72
      · rw [if_pos (by omega)] at h
        rw [if_pos (by omega)]
        (refine e_mo_noI (k := 6) hI (by omega) (fun M1 I f => ?_); (first | refine g_mo_letter_0 ?_ | refine g_mo_letter_10 ?_ | refine g_mo_letter_33 ?_); exact h M1 L I f)
      · rw [if_neg (by omega)] at h
        simp (disch := omega) only [zck_t, if_pos, if_neg, if_true, if_false, zwr_id, Int.toNat_natCast]
        refine h _ L (hI.xt (S := [118]) (T := [7]) (fun k hk h112 => ?_) (fun j hj => ?_) (by decide) (by decide) ⟨?_, ?_, ?_, fun j hj => ?_⟩) (fun k hk => ?_)
        · rw [zmu_kf h112, zmu_kf (by simpa using hk)]
        · rw [zmu_j (by simpa using hj), zmu_k (by decide)]
        · rw [zmu_s]; simp
        · simp; omega
        · intro x hx
          rcases List.mem_append.mp hx with q | q
          · exact t3 x q
          · rw [List.mem_singleton.mp q]; omega
        · rw [zmu_kf (by decide), getD_snoc]
          by_cases q : j = tx.length
          · rw [q, zmu_s, if_neg (by omega), if_pos rfl]
          · simp at hj
            rw [zmu_j q, if_pos (by omega)]; exact t4 j (by omega)
        · rw [zmu_kf (by omega), zmu_kf (by omega)]
theorem c_mo_drop (hI : iM M P R ws tx hs kp ls rf) (h : ∀ M1 L1, jM M1 (opDrop P R ws tx hs kp ls rf).1 → aC M M1 → Q (opDrop P R ws tx hs kp ls rf).2 (SH, M1, L1)) : zEv (d + 9) m_mo_drop [zR 112] (SH, M, L) Q := by
  unfold opDrop at h
  refine b_mo_drop ?_
  (first | refine g_mo_drop_0 ?_ | refine g_mo_drop_13 ?_)
  obtain ⟨s1, s2, s3⟩ := hI.s
  rw [s1, zmu_s]
  by_cases g : ws = []
  · rw [if_pos g] at h
    rw [if_pos (by rw [g]; rfl)]
    (refine e_mo_noI (k := 3) hI (by omega) (fun M1 I f => ?_); (first | refine g_mo_drop_0 ?_ | refine g_mo_drop_13 ?_); exact h M1 L I f)
  · have g0 := List.length_pos_iff.mpr g
    rw [if_neg g] at h
    simp (disch := omega) only [zck_t, if_pos, if_neg, if_true, if_false, zwr_id, Int.toNat_natCast]
    refine h _ L (hI.sx (S := []) (T := [2]) (fun k _ h112 => zmu_kf h112) (fun j hj => zmu_j (by simpa using hj)) (by decide) (by decide) ⟨?_, ?_, fun i hi => ?_⟩) (fun k hk => zmu_kf (by omega))
    · rw [zmu_s, List.length_dropLast]; omega
    · rw [List.length_dropLast]; omega
    · rw [List.length_dropLast] at hi
      have e : ws.dropLast.getD i [] = ws.getD i [] := by
        rw [List.getD_eq_getElem?_getD, List.getD_eq_getElem?_getD, List.dropLast_eq_take, List.getElem?_take_of_lt (by omega)]
      rw [e, zmu_kf (by decide), zmu_kf (by decide)]
      exact s3 i (by omega)
/-! what is remembered -/
theorem mo_rem_shift {hs' : List zLw} (h : ∀ M', M' 112 8 = 7 → (∀ j, j < 84 → M' 119 j = M 119 (j + 12)) → cFr [112, 119] M M' → (∀ j, j ≠ 8 → M' 112 j = M 112 j) → zEx (d + 1) m_mo_remembers zb0 Q 50 ([zR 112, zI 0], [], SH, M', L)) (h8 : M 112 8 = 8) :
    ∀ (n k : Nat) (Mk : zM), k + n = 84 → (∀ j, j < k → Mk 119 j = M 119 (j + 12)) → (∀ j, k ≤ j → Mk 119 j = M 119 j) → cFr [119] M Mk → zEx (d + 1) m_mo_remembers zb0 Q 11 ([zR 112, zI (k : Int)], [], SH, Mk, L) := by
  intro n
  induction n with
  | zero =>
    intro k Mk hk h1 h2 hf
    refine g_mo_remembers_11 ?_
    rw [hf 112 (by decide), h8]
    simp (disch := omega) only [zck_t, if_pos, if_neg, if_true, if_false, zwr_id, Int.toNat_natCast]
    refine h _ zmu_s (fun j hj => ?_) (fun a ha => ?_) (fun j hj => ?_)
    · rw [zmu_kf (by decide)]; exact h1 j (by omega)
    · simp at ha
      rw [zmu_kf ha.1]; exact hf a (by simpa using ha.2)
    · rw [zmu_j hj, hf 112 (by decide)]
  | succ n ih =>
    intro k Mk hk h1 h2 hf
    refine g_mo_remembers_11 ?_
    simp (disch := omega) only [zck_t, if_pos, if_neg, if_true, if_false, zwr_id, Int.toNat_natCast]
    rw [show ((k : Int) + 12).toNat = k + 12 by omega, show ((k : Int) + 1) = ((k + 1 : Nat) : Int) by omega]
    refine ih (k + 1) _ (by omega) (fun j hj => ?_) (fun j hj => ?_) (fun a ha => ?_)
    · by_cases q : j = k
      · rw [q, zmu_s, h2 _ (by omega)]
      · rw [zmu_j q]; exact h1 j (by omega)
    · rw [zmu_j (by omega)]; exact h2 j (by omega)
    · rw [zmu_kf (by simpa using ha)]; exact hf a ha
theorem mo_rem_put {c : Nat} (hc : c < 8) (hl : lIs M 112 P R) (h8 : M 112 8 = (c : Int)) (h : ∀ M', M' 112 8 = (c : Int) + 1 → (∀ a, a < 6 → M' 119 (12 * c + a) = (P a : Int) ∧ M' 119 (12 * c + 6 + a) = (R a : Int)) → (∀ j, j < 12 * c → M' 119 j = M 119 j) → cFr [112, 119] M M' → (∀ j, j ≠ 8 → M' 112 j = M 112 j) → Q 0 (SH, M', L)) :
    ∀ (n k : Nat) (Mk : zM), k + n = 6 → (∀ a, a < k → Mk 119 (12 * c + a) = (P a : Int) ∧ Mk 119 (12 * c + 6 + a) = (R a : Int)) → (∀ j, j < 12 * c → Mk 119 j = M 119 j) → cFr [119] M Mk → zEx (d + 1) m_mo_remembers zb0 Q 50 ([zR 112, zI (k : Int)], [], SH, Mk, L) := by
  intro n
  induction n with
  | zero =>
    intro k Mk hk h1 h2 hf
    refine g_mo_remembers_50 ?_
    rw [hf 112 (by decide), h8]
    simp (disch := omega) only [zck_t, if_pos, if_neg, if_true, if_false, zwr_id, Int.toNat_natCast]
    refine h _ zmu_s (fun a ha => ?_) (fun j hj => ?_) (fun a ha => ?_) (fun j hj => ?_)
    · rw [zmu_kf (by decide)]; exact h1 a (by omega)
    · rw [zmu_kf (by decide)]; exact h2 j hj
    · simp at ha
      rw [zmu_kf ha.1]; exact hf a (by simpa using ha.2)
    · rw [zmu_j hj, hf 112 (by decide)]
  | succ n ih =>
    intro k Mk hk h1 h2 hf
    refine g_mo_remembers_50 ?_
    have e8 : Mk 112 8 = (c : Int) := by rw [hf 112 (by decide), h8]
    have e9 : ∀ (j : Nat) (v : Int), zmu Mk 119 j v 112 8 = (c : Int) := fun j v => by rw [zmu_k (by decide), e8]
    have e10 : ∀ (j : Nat) (v : Int), zmu Mk 119 j v 114 (Int.toNat (k : Int)) = (R k : Int) := fun j v => by
      rw [zmu_k (by decide), hf 114 (by decide), Int.toNat_natCast]; exact (hl k (by omega)).2
    have e11 : Mk 113 (Int.toNat (k : Int)) = (P k : Int) := by rw [hf 113 (by decide), Int.toNat_natCast]; exact (hl k (by omega)).1
    simp only [e8, e9, e10, e11]
    simp (disch := omega) only [zck_t, if_pos, if_neg, if_true, if_false, zwr_id, Int.toNat_natCast]
    rw [show (12 * (c : Int) + (k : Int)).toNat = 12 * c + k by omega, show (12 * (c : Int) + 6 + (k : Int)).toNat = 12 * c + 6 + k by omega, show ((k : Int) + 1) = ((k + 1 : Nat) : Int) by omega]
    refine ih (k + 1) _ (by omega) (fun a ha => ?_) (fun j hj => ?_) (fun a ha => ?_)
    · by_cases q : a = k
      · subst q
        exact ⟨by rw [zmu_j (by omega), zmu_s], zmu_s⟩
      · exact ⟨by rw [zmu_j (by omega), zmu_j (by omega)]; exact (h1 a (by omega)).1, by rw [zmu_j (by omega), zmu_j (by omega)]; exact (h1 a (by omega)).2⟩
    · rw [zmu_j (by omega), zmu_j (by omega)]; exact h2 j hj
    · rw [zmu_kf (by simpa using ha), zmu_kf (by simpa using ha)]; exact hf a ha
theorem e_mo_remembers (hh : hM M hs) (hl : lIs M 112 P R) (h : ∀ M', hM M' (((P, R) :: hs).take 8) → cFr [112, 119] M M' → (∀ j, j ≠ 8 → M' 112 j = M 112 j) → Q 0 (SH, M', L)) : zEv (d + 1) m_mo_remembers [zR 112] (SH, M, L) Q := by
  obtain ⟨h1, h2, h3⟩ := hh
  have hlen : (((P, R) :: hs).take 8).length = min (hs.length + 1) 8 := by rw [List.length_take, List.length_cons]; omega
  have fin : ∀ (c : Nat) (M1 M' : zM), c < 8 → c + 1 = min (hs.length + 1) 8 → (∀ i, i < c → ∀ a, a < 6 → M1 119 (12 * (c - 1 - i) + a) = ((hs.getD i zlw0).1 a : Int) ∧ M1 119 (12 * (c - 1 - i) + 6 + a) = ((hs.getD i zlw0).2 a : Int)) → M' 112 8 = (c : Int) + 1 → (∀ a, a < 6 → M' 119 (12 * c + a) = (P a : Int) ∧ M' 119 (12 * c + 6 + a) = (R a : Int)) → (∀ j, j < 12 * c → M' 119 j = M1 119 j) → hM M' (((P, R) :: hs).take 8) := by
    intro c M1 M' hc hce hold g1 g2 g3
    refine ⟨by rw [g1, hlen]; omega, by omega, fun i hi a ha => ?_⟩
    rw [hlen] at hi
    have e4 : (((P, R) :: hs).take 8).getD i zlw0 = ((P, R) :: hs).getD i zlw0 := by
      rw [List.getD_eq_getElem?_getD, List.getD_eq_getElem?_getD, List.getElem?_take_of_lt (by omega)]
    rw [e4, hlen, ← hce]
    cases i with
    | zero =>
      rw [show c + 1 - 1 - 0 = c by omega]
      exact g2 a ha
    | succ i =>
      rw [show c + 1 - 1 - (i + 1) = c - 1 - i by omega, List.getD_cons_succ, g3 _ (by omega), g3 _ (by omega)]
      exact hold i (by omega) a ha
  refine b_mo_remembers (g_mo_remembers_0 ?_)
  rw [h1]
  by_cases g : hs.length = 8
  · rw [if_pos (by omega)]
    refine mo_rem_shift (hs' := hs) (fun M1 a1 a2 a3 a4 => ?_) (by rw [h1]; omega) 84 0 M (by omega) (fun j hj => by omega) (fun _ _ => rfl) cFr.rf
    refine mo_rem_put (c := 7) (by omega) (fun c hc => ?_) a1 (fun M2 b1 b2 b3 b4 b5 => h M2 (fin 7 M1 M2 (by omega) (by omega) (fun i hi a ha => ?_) b1 b2 b3) (a3.tr b4) (fun j hj => ?_)) 6 0 M1 (by omega) (fun a ha => by omega) (fun _ _ => rfl) cFr.rf
    · rw [a3 (112 + 1) (by decide), a3 (112 + 2) (by decide)]; exact hl c hc
    · have := h3 i (by omega) a ha
      rw [a2 _ (by omega), a2 _ (by omega), show 12 * (7 - 1 - i) + a + 12 = 12 * (hs.length - 1 - i) + a by omega, show 12 * (7 - 1 - i) + 6 + a + 12 = 12 * (hs.length - 1 - i) + 6 + a by omega]
      exact this
    · rw [b5 j hj, a4 j hj]
  · rw [if_neg (by omega)]
    exact mo_rem_put (c := hs.length) (by omega) hl h1 (fun M2 b1 b2 b3 b4 b5 => h M2 (fin hs.length M M2 (by omega) (by omega) (fun i hi a ha => h3 i hi a ha) b1 b2 b3) b4 b5) 6 0 M (by omega) (fun a ha => by omega) (fun _ _ => rfl) cFr.rf
theorem c_mo_passes {a b : Int} (hI : iM M P R ws tx hs kp ls rf) (h : ∀ M1 L1, jM M1 (opPasses P R ws tx hs kp ls rf a b).1 → aC M M1 → Q (opPasses P R ws tx hs kp ls rf a b).2 (SH, M1, L1)) : zEv (d + 9) m_mo_passes [zR 112, zI a, zI b] (SH, M, L) Q := by
  unfold opPasses at h
  refine b_mo_passes ?_
  (first | refine g_mo_passes_0 ?_ | refine g_mo_passes_5 ?_ | refine g_mo_passes_13 ?_ | refine g_mo_passes_18 ?_ | refine g_mo_passes_24 ?_ | refine g_mo_passes_30 ?_)
  refine e_mo_areTwo ?_
  (first | refine g_mo_passes_0 ?_ | refine g_mo_passes_5 ?_ | refine g_mo_passes_13 ?_ | refine g_mo_passes_18 ?_ | refine g_mo_passes_24 ?_ | refine g_mo_passes_30 ?_)
  by_cases g : two a b
  · rw [if_pos g] at h ⊢
    rw [if_neg (by decide)]
    refine e_mo_remembers hI.h hI.l (fun M1 g1 f1 t1 => ?_)
    (first | refine g_mo_passes_0 ?_ | refine g_mo_passes_5 ?_ | refine g_mo_passes_13 ?_ | refine g_mo_passes_18 ?_ | refine g_mo_passes_24 ?_ | refine g_mo_passes_30 ?_)
    have l1 := f1.law hI.l (by decide) (by decide)
    refine e_mo_turns l1 hI.lo ⟨g.1, g.2.1⟩ ⟨g.2.2.1, g.2.2.2.1⟩ g.2.2.2.2 (fun M2 g2 f2 => ?_)
    (first | refine g_mo_passes_0 ?_ | refine g_mo_passes_5 ?_ | refine g_mo_passes_13 ?_ | refine g_mo_passes_18 ?_ | refine g_mo_passes_24 ?_ | refine g_mo_passes_30 ?_)
    have lo2 := flP_ok hI.lo (a := a.toNat) (b := b.toNat) (by omega) (by omega) (by omega)
    refine e_mo_passes_ g2 lo2 ⟨g.1, g.2.1⟩ ⟨g.2.2.1, g.2.2.2.1⟩ ?_
    (first | refine g_mo_passes_0 ?_ | refine g_mo_passes_5 ?_ | refine g_mo_passes_13 ?_ | refine g_mo_passes_18 ?_ | refine g_mo_passes_24 ?_ | refine g_mo_passes_30 ?_)
    have e := h M2 L (hI.lx (S := [113, 114, 119]) (T := [8]) (fun k hk h112 => ?_) (fun j hj => ?_) (by decide) (by decide) g2 lo2 (g1.of (by rw [f2 112 (by decide) (by decide)]) (f2 119 (by decide) (by decide)))) (fun k hk => ?_)
    · cases q : psL (flP P a.toNat b.toNat) a b
      · rw [q] at e; exact e
      · rw [q] at e; exact e
    · simp at hk
      rw [f2 k (by omega) (by omega), f1 k (by simp; omega)]
    · rw [f2 112 (by decide) (by decide), t1 j (by simpa using hj)]
    · rw [f2 k (by omega) (by omega), f1 k (by simp; omega)]
  · rw [if_neg g] at h ⊢
    rw [if_pos rfl]
    (refine e_mo_noI (k := 1) hI (by omega) (fun M1 I f => ?_); (first | refine g_mo_passes_0 ?_ | refine g_mo_passes_5 ?_ | refine g_mo_passes_13 ?_ | refine g_mo_passes_18 ?_ | refine g_mo_passes_24 ?_ | refine g_mo_passes_30 ?_); exact h M1 L I f)
theorem c_mo_ranks {a b : Int} (hI : iM M P R ws tx hs kp ls rf) (h : ∀ M1 L1, jM M1 (opRanks P R ws tx hs kp ls rf a b).1 → aC M M1 → Q (opRanks P R ws tx hs kp ls rf a b).2 (SH, M1, L1)) : zEv (d + 9) m_mo_ranks [zR 112, zI a, zI b] (SH, M, L) Q := by
  unfold opRanks at h
  refine b_mo_ranks ?_
  (first | refine g_mo_ranks_0 ?_ | refine g_mo_ranks_5 ?_ | refine g_mo_ranks_13 ?_ | refine g_mo_ranks_18 ?_ | refine g_mo_ranks_24 ?_)
  refine e_mo_areTwo ?_
  (first | refine g_mo_ranks_0 ?_ | refine g_mo_ranks_5 ?_ | refine g_mo_ranks_13 ?_ | refine g_mo_ranks_18 ?_ | refine g_mo_ranks_24 ?_)
  by_cases g : two a b
  · rw [if_pos g] at h ⊢
    rw [if_neg (by decide)]
    refine e_mo_remembers hI.h hI.l (fun M1 g1 f1 t1 => ?_)
    (first | refine g_mo_ranks_0 ?_ | refine g_mo_ranks_5 ?_ | refine g_mo_ranks_13 ?_ | refine g_mo_ranks_18 ?_ | refine g_mo_ranks_24 ?_)
    have l1 := f1.law hI.l (by decide) (by decide)
    refine e_mo_swaps l1 ⟨g.1, g.2.1⟩ ⟨g.2.2.1, g.2.2.2.1⟩ (fun M2 g2 f2 => ?_)
    (first | refine g_mo_ranks_0 ?_ | refine g_mo_ranks_5 ?_ | refine g_mo_ranks_13 ?_ | refine g_mo_ranks_18 ?_ | refine g_mo_ranks_24 ?_)
    have lo2 := swR_ok hI.lo (a := a.toNat) (b := b.toNat) (by omega) (by omega)
    rw [zck_t ⟨g.1, g.2.1⟩, show M2 114 a.toNat = _ from (g2 a.toNat (by omega)).2]
    refine h M2 L (hI.lx (S := [113, 114, 119]) (T := [8]) (fun k hk h112 => ?_) (fun j hj => ?_) (by decide) (by decide) g2 lo2 (g1.of (by rw [f2 112 (by decide) (by decide)]) (f2 119 (by decide) (by decide)))) (fun k hk => ?_)
    · simp at hk
      rw [f2 k (by omega) (by omega), f1 k (by simp; omega)]
    · rw [f2 112 (by decide) (by decide), t1 j (by simpa using hj)]
    · rw [f2 k (by omega) (by omega), f1 k (by simp; omega)]
  · rw [if_neg g] at h ⊢
    rw [if_pos rfl]
    (refine e_mo_noI (k := 1) hI (by omega) (fun M1 I f => ?_); (first | refine g_mo_ranks_0 ?_ | refine g_mo_ranks_5 ?_ | refine g_mo_ranks_13 ?_ | refine g_mo_ranks_18 ?_ | refine g_mo_ranks_24 ?_); exact h M1 L I f)
theorem mo_undo_loop {p : zLw} {c : Nat} (hc : c < 8) (h8 : M 112 8 = (c : Int)) (hp : ∀ a, a < 6 → M 119 (12 * c + a) = (p.1 a : Int) ∧ M 119 (12 * c + 6 + a) = (p.2 a : Int)) (h : ∀ M', lIs M' 112 p.1 p.2 → lFr M M' 112 → Q (c : Int) (SH, M', L)) :
    ∀ (n k : Nat) (Mk : zM), k + n = 6 → (∀ a, a < k → Mk 113 a = (p.1 a : Int) ∧ Mk 114 a = (p.2 a : Int)) → lFr M Mk 112 → zEx (d + 1) m_mo_undo zb0 Q 26 ([zR 112, zI (k : Int)], [], SH, Mk, L) := by
  intro n
  induction n with
  | zero =>
    intro k Mk hk h1 hf
    refine g_mo_undo_26 ?_
    rw [hf 112 (by decide) (by decide), h8]
    simp (disch := omega) only [zck_t, if_pos, if_neg, if_true, if_false, zwr_id, Int.toNat_natCast]
    exact h Mk (fun a ha => h1 a (by omega)) hf
  | succ n ih =>
    intro k Mk hk h1 hf
    refine g_mo_undo_26 ?_
    have e8 : Mk 112 8 = (c : Int) := by rw [hf 112 (by decide) (by decide), h8]
    have e9 : ∀ (j : Nat) (v : Int), zmu Mk 113 j v 112 8 = (c : Int) := fun j v => by rw [zmu_k (by decide), e8]
    have e10 : ∀ (j : Nat) (v : Int) (i : Nat), zmu Mk 113 j v 119 i = M 119 i := fun j v i => by rw [zmu_k (by decide), hf 119 (by decide) (by decide)]
    have e11 : Mk 119 = M 119 := hf 119 (by decide) (by decide)
    simp only [e8, e9, e10, e11]
    simp (disch := omega) only [zck_t, if_pos, if_neg, if_true, if_false, zwr_id, Int.toNat_natCast]
    rw [show (12 * (c : Int) + (k : Int)).toNat = 12 * c + k by omega, show (12 * (c : Int) + 6 + (k : Int)).toNat = 12 * c + 6 + k by omega, (hp k (by omega)).1, (hp k (by omega)).2, show ((k : Int) + 1) = ((k + 1 : Nat) : Int) by omega]
    refine ih (k + 1) _ (by omega) (fun a ha => ?_) (fun a h113 h114 => ?_)
    · by_cases q : a = k
      · subst q
        exact ⟨by rw [zmu_k (by decide), zmu_s], zmu_s⟩
      · exact ⟨by rw [zmu_k (by decide), zmu_j q]; exact (h1 a (by omega)).1, by rw [zmu_j q, zmu_k (by decide)]; exact (h1 a (by omega)).2⟩
    · rw [zmu_kf h114, zmu_kf h113]; exact hf a h113 h114
theorem c_mo_undo (hok : ∀ i, i < hs.length → lOk (hs.getD i zlw0).1 (hs.getD i zlw0).2) (hI : iM M P R ws tx hs kp ls rf) (h : ∀ M1 L1, jM M1 (opUndo P R ws tx hs kp ls rf).1 → aC M M1 → Q (opUndo P R ws tx hs kp ls rf).2 (SH, M1, L1)) : zEv (d + 9) m_mo_undo [zR 112] (SH, M, L) Q := by
  refine b_mo_undo ?_
  (first | refine g_mo_undo_0 ?_ | refine g_mo_undo_13 ?_ | refine g_mo_undo_26 ?_)
  obtain ⟨h1, h2, h3⟩ := hI.h
  rw [h1]
  cases hs with
  | nil =>
    refine zif_t rfl ?_
    (refine e_mo_noI (k := 3) hI (by omega) (fun M1 I f => ?_); (first | refine g_mo_undo_0 ?_ | refine g_mo_undo_13 ?_ | refine g_mo_undo_26 ?_); exact h M1 L I f)
  | cons p hs =>
    rw [List.length_cons] at h1 h2 h3 ⊢
    refine zif_f (by omega) ?_
    simp (disch := omega) only [zck_t, if_pos, if_neg, if_true, if_false, zwr_id, Int.toNat_natCast]
    rw [show (((hs.length + 1 : Nat) : Int) - 1) = (hs.length : Int) by omega]
    refine mo_undo_loop (p := p) (c := hs.length) (by omega) zmu_s (fun a ha => ?_) (fun M1 g1 f1 => ?_) 6 0 _ (by omega) (fun a ha => by omega) lFr.rf
    · rw [zmu_kf (by decide)]
      exact h3 0 (by omega) a ha
    · have h30 : hM M1 hs := by
        refine ⟨by rw [f1 112 (by decide) (by decide), zmu_s], by omega, fun i hi a ha => ?_⟩
        have := h3 (i + 1) (by omega) a ha
        rw [List.getD_cons_succ] at this
        rw [f1 119 (by decide) (by decide), zmu_kf (by decide)]
        rw [show hs.length + 1 - 1 - (i + 1) = hs.length - 1 - i by omega] at this
        exact this
      refine h M1 L (hI.lx (S := [113, 114]) (T := [8]) (fun k hk h112 => ?_) (fun j hj => ?_) (by decide) (by decide) g1 (hok 0 (by simp)) h30) (fun k hk => ?_)
      · simp at hk
        rw [f1 k (by omega) (by omega), zmu_kf h112]
      · rw [f1 112 (by decide) (by decide), zmu_j (by simpa using hj)]
      · rw [f1 k (by omega) (by omega), zmu_kf (by omega)]
end MY
