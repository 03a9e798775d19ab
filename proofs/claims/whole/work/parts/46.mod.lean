/-! the reference's calls: lays, judge, the image, count -/
section NB
variable {d : Nat} {M M' L : zM} {Q : Int → zW → Prop} {P R : Nat → Nat} {ws : List (List Int)} {tx : List Int} {hs : List zLw} {kp : zKp} {ls : Nat → Option (List Int)} {rf : Nat → Int}
theorem getD_lay {u v : List Int} {i j : Nat} (h : i + v.length ≤ u.length) : (lay u i v).getD j 0 = if i ≤ j ∧ j < i + v.length then v.getD (j - i) 0 else u.getD j 0 := by
  have hl : (u.take i).length = i := by rw [List.length_take]; omega
  unfold lay
  rw [List.append_assoc]
  by_cases c1 : j < i
  · rw [if_neg (by omega), getD_app_l (by omega), List.getD_eq_getElem?_getD, List.getD_eq_getElem?_getD, List.getElem?_take_of_lt c1]
  · have e := getD_app_r (u := u.take i) (v := v ++ u.drop (i + v.length)) (j := j - i)
    rw [hl, show i + (j - i) = j by omega] at e
    rw [e]
    by_cases c2 : j < i + v.length
    · rw [if_pos ⟨by omega, c2⟩, getD_app_l (by omega)]
    · rw [if_neg (by omega)]
      have e2 := getD_app_r (u := v) (v := u.drop (i + v.length)) (j := j - i - v.length)
      rw [show v.length + (j - i - v.length) = j - i by omega] at e2
      rw [e2, List.getD_eq_getElem?_getD, List.getElem?_drop, List.getD_eq_getElem?_getD]
      congr 2
      omega
theorem mo_lays_loop {l i w : Int} {v : List Int} {M0 : zM} (hl : lt3 l) (hv : aIs M0 131 v) (hv14 : v.length ≤ 14) (hi : v = [] ∨ 0 ≤ i ∧ i + v.length ≤ 40) (hi2 : zr32 i) (h : ∀ M', (∀ j, j < v.length → M' 125 (40 * l.toNat + (i.toNat + j)) = v.getD j 0) → (∀ j, ¬ (40 * l.toNat + i.toNat ≤ j ∧ j < 40 * l.toNat + i.toNat + v.length) → M' 125 j = M0 125 j) → cFr [125] M0 M' → Q (v.length : Int) (SH, M', L)) :
    ∀ (m k : Nat) (Mk : zM), k + m = v.length → (∀ j, j < k → Mk 125 (40 * l.toNat + (i.toNat + j)) = v.getD j 0) → (∀ j, ¬ (40 * l.toNat + i.toNat ≤ j ∧ j < 40 * l.toNat + i.toNat + v.length) → Mk 125 j = M0 125 j) → cFr [125] M0 Mk → zEx (d + 1) m_mo_lays zb0 Q 83 ([zR 112, zI l, zI i, zI w, zI (v.length : Int), zI (k : Int)], [], SH, Mk, L) := by
  unfold zr32 at hi2
  intro m
  induction m with
  | zero =>
    intro k Mk hk h1 h2 hf
    refine g_mo_lays_83 ?_
    rw [if_neg (by omega)]
    exact h Mk (fun j hj => h1 j (by omega)) h2 hf
  | succ m ih =>
    intro k Mk hk h1 h2 hf
    have hi : 0 ≤ i ∧ i + v.length ≤ 40 := by
      rcases hi with q | q
      · rw [q] at hk; simp at hk
      · exact q
    refine g_mo_lays_83 ?_
    simp (disch := omega) only [zck_t, if_pos, if_neg, if_true, if_false, zwr_id, Int.toNat_natCast]
    rw [show (40 * l + i + (k : Int)).toNat = 40 * l.toNat + (i.toNat + k) by omega, hf 131 (by decide), hv.1 k (by omega), show ((k : Int) + 1) = ((k + 1 : Nat) : Int) by omega]
    refine ih (k + 1) _ (by omega) (fun j hj => ?_) (fun j hj => ?_) (fun a ha => ?_)
    · by_cases q : j = k
      · rw [q, zmu_s]
      · rw [zmu_j (by omega)]; exact h1 j (by omega)
    · rw [zmu_j (by omega)]; exact h2 j hj
    · rw [zmu_kf (by simpa using ha)]; exact hf a ha
theorem c_mo_lays {l i w : Int} (hi : zr32 i) (hI : iM M P R ws tx hs kp ls rf) (h : ∀ M1 L1, jM M1 (opLays P R ws tx hs kp ls rf l i w).1 → aC M M1 → Q (opLays P R ws tx hs kp ls rf l i w).2 (SH, M1, L1)) : zEv (d + 9) m_mo_lays [zR 112, zI l, zI i, zI w] (SH, M, L) Q := by
  unfold opLays at h
  refine b_mo_lays ?_
  (first | refine g_mo_lays_0 ?_ | refine g_mo_lays_4 ?_ | refine g_mo_lays_12 ?_ | refine g_mo_lays_20 ?_ | refine g_mo_lays_47 ?_ | refine g_mo_lays_63 ?_ | refine g_mo_lays_80 ?_ | refine g_mo_lays_83 ?_)
  refine e_mo_isList ?_
  (first | refine g_mo_lays_0 ?_ | refine g_mo_lays_4 ?_ | refine g_mo_lays_12 ?_ | refine g_mo_lays_20 ?_ | refine g_mo_lays_47 ?_ | refine g_mo_lays_63 ?_ | refine g_mo_lays_80 ?_ | refine g_mo_lays_83 ?_)
  by_cases g : lt3 l
  · rw [if_pos g, if_neg (by decide)]
    refine e_mo_isWord hI.s ?_
    (first | refine g_mo_lays_0 ?_ | refine g_mo_lays_4 ?_ | refine g_mo_lays_12 ?_ | refine g_mo_lays_20 ?_ | refine g_mo_lays_47 ?_ | refine g_mo_lays_63 ?_ | refine g_mo_lays_80 ?_ | refine g_mo_lays_83 ?_)
    by_cases g1 : wd ws w
    · obtain ⟨w1, w2, w3, w4, w5⟩ := hI.w g1
      rw [if_pos ⟨g, g1⟩] at h
      rw [if_pos g1, if_neg (by decide), zck_t (by omega)]
      cases q : ls l.toNat with
      | none =>
        rw [q] at h
        rw [hI.n.none (by omega) q, if_pos rfl]
        exact h M L hI aC.r0
      | some xs =>
        rw [q] at h
        obtain ⟨x1, x2, x3⟩ := hI.n.gl (show l.toNat < 3 by omega) q
        rw [x1, if_neg (by omega), w1, zck_t (by omega)]
        refine e_mo_areThere hI.n g q hi (by omega) ?_
        (first | refine g_mo_lays_0 ?_ | refine g_mo_lays_4 ?_ | refine g_mo_lays_12 ?_ | refine g_mo_lays_20 ?_ | refine g_mo_lays_47 ?_ | refine g_mo_lays_63 ?_ | refine g_mo_lays_80 ?_ | refine g_mo_lays_83 ?_)
        cases g6 : rhas xs.length i (gw ws w).length with
        | false =>
          simp only [g6] at h
          exact zif_t (by simp) (h M L hI aC.r0)
        | true =>
          simp only [g6] at h
          refine zif_f (by simp) ?_
          refine e_mo_load hI g1 (Or.inl rfl) (fun M1 m1 I1 f1 => ?_)
          (first | refine g_mo_lays_0 ?_ | refine g_mo_lays_4 ?_ | refine g_mo_lays_12 ?_ | refine g_mo_lays_20 ?_ | refine g_mo_lays_47 ?_ | refine g_mo_lays_63 ?_ | refine g_mo_lays_80 ?_ | refine g_mo_lays_83 ?_)
          refine e_mo_takes (last := false) zk_128 (by decide) zk_131 (by decide) (by decide) (by decide) (by rw [zl_131]; omega) I1.l hI.lo m1 w3 (by omega) (fun M2 m2 f2 => ?_)
          (first | refine g_mo_lays_0 ?_ | refine g_mo_lays_4 ?_ | refine g_mo_lays_12 ?_ | refine g_mo_lays_20 ?_ | refine g_mo_lays_47 ?_ | refine g_mo_lays_63 ?_ | refine g_mo_lays_80 ?_ | refine g_mo_lays_83 ?_)
          have hll : (lw P R false (gw ws w)).length = (gw ws w).length := lw_len
          have hh : lw P R false (gw ws w) = [] ∨ 0 ≤ i ∧ i + (lw P R false (gw ws w)).length ≤ xs.length := by
            unfold rhas at g6
            have g6 := of_decide_eq_true g6
            by_cases e : lw P R false (gw ws w) = []
            · exact Or.inl e
            · have := List.length_pos_iff.mpr e
              right
              omega
          have hz : (lw P R false (gw ws w)).length = 0 ∨ 0 ≤ i ∧ i + (lw P R false (gw ws w)).length ≤ xs.length := by
            rcases hh with e | e
            · exact Or.inl (by rw [e]; rfl)
            · exact Or.inr e
          rw [← hll]
          refine mo_lays_loop (d := d + 8) (w := w) g m2 (by omega) (by rcases hh with e | e; exact Or.inl e; exact Or.inr (by omega)) hi (fun M3 h1 h2 f3 => ?_) (lw P R false (gw ws w)).length 0 M2 (by omega) (fun j hj => by omega) (fun _ _ => rfl) cFr.rf
          have fa : cFr [125, 128, 130, 131] M M3 := ((f1.up (by decide)).tr (f2.up (by decide))).tr (f3.up (by decide))
          have f125 : M2 125 = M 125 := by rw [f2 125 (by decide), f1 125 (by decide)]
          rw [hll]
          refine h M3 L (hI.nx fa (by decide) (hI.n.set (l := l.toNat) (by omega) ?_ ?_ (fun j hj => ?_) (fun k hk => ?_) (fun j hj => ?_))) (fa.aC (by decide))
          · rw [fa 124 (by decide), x1]
            split
            · rfl
            · next e => rw [lay_len (by rcases hh with z | z; exact absurd z e; omega)]
          · split
            · exact x2
            · next e => rw [lay_len (by rcases hh with z | z; exact absurd z e; omega)]; exact x2
          · by_cases e : lw P R false (gw ws w) = []
            · have e0 : (lw P R false (gw ws w)).length = 0 := by rw [e]; rfl
              rw [if_pos e] at hj ⊢
              rw [h2 _ (by omega), f125]
              exact x3 j hj
            · have z : 0 ≤ i ∧ i + (lw P R false (gw ws w)).length ≤ xs.length := by rcases hh with y | y; exact absurd y e; exact y
              rw [if_neg e] at hj ⊢
              rw [lay_len (by omega)] at hj
              rw [getD_lay (by omega)]
              by_cases c : i.toNat ≤ j ∧ j < i.toNat + (lw P R false (gw ws w)).length
              · rw [if_pos c]
                have := h1 (j - i.toNat) (by omega)
                rw [show i.toNat + (j - i.toNat) = j by omega] at this
                exact this
              · rw [if_neg c, h2 _ (by omega), f125]
                exact x3 j hj
          · rw [fa 124 (by decide)]
          · rw [h2 _ (by omega), f125]
    · rw [if_neg (fun q => g1 q.2)] at h
      rw [if_neg g1, if_pos rfl]
      (refine e_mo_noI (k := 1) hI (by omega) (fun M1 I f => ?_); (first | refine g_mo_lays_0 ?_ | refine g_mo_lays_4 ?_ | refine g_mo_lays_12 ?_ | refine g_mo_lays_20 ?_ | refine g_mo_lays_47 ?_ | refine g_mo_lays_63 ?_ | refine g_mo_lays_80 ?_ | refine g_mo_lays_83 ?_); exact h M1 L I f)
  · rw [if_neg (fun q => g q.1)] at h
    rw [if_neg g, if_pos rfl]
    (refine e_mo_noI (k := 1) hI (by omega) (fun M1 I f => ?_); (first | refine g_mo_lays_0 ?_ | refine g_mo_lays_4 ?_ | refine g_mo_lays_12 ?_ | refine g_mo_lays_20 ?_ | refine g_mo_lays_47 ?_ | refine g_mo_lays_63 ?_ | refine g_mo_lays_80 ?_ | refine g_mo_lays_83 ?_); exact h M1 L I f)
theorem mo_judge_loop {l w : Int} {xs : List Int} (hI : iM M P R ws tx hs kp ls rf) (hl : lt3 l) (q : ls l.toNat = some xs) (g : wd ws w) {res : Int} (h : Q res (SH, M, L)) :
    ∀ (v : List Int) (k : Nat), xs.drop k = v → k ≤ xs.length → fstO v ((gw ws w).drop k) k = res → zEx (d + 1) m_mo_judge zb0 Q 37 ([zR 112, zI l, zI w, zI (k : Int)], [], SH, M, L) := by
  obtain ⟨x1, x2, x3⟩ := hI.n.gl (show l.toNat < 3 by omega) q
  obtain ⟨w1, w2, w3, w4, w5⟩ := hI.w g
  intro v
  induction v with
  | nil =>
    intro k hd hk he
    have : xs.length ≤ k := by have := congrArg List.length hd; simp at this; omega
    refine g_mo_judge_37 ?_
    rw [x1]
    simp (disch := omega) only [zck_t, if_pos, if_neg, if_true, if_false, zwr_id, Int.toNat_natCast]
    unfold fstO at he
    rw [he]; exact h
  | cons a v ih =>
    intro k hd hk he
    obtain ⟨h1, h2, h3⟩ := drop_cons hd
    refine g_mo_judge_37 ?_
    rw [x1, w1]
    simp (disch := omega) only [zck_t, if_pos, if_neg, if_true, if_false, zwr_id, Int.toNat_natCast]
    by_cases c : k < (gw ws w).length
    · rw [show (40 * l + (k : Int)).toNat = 40 * l.toNat + k by omega, show (14 * w + (k : Int)).toNat = 14 * w.toNat + k by omega, x3 k (by omega), h1, w4 k c, show ((k : Int) + 1) = ((k + 1 : Nat) : Int) by omega]
      have hdv : (gw ws w).drop k = (gw ws w).getD k 0 :: (gw ws w).drop (k + 1) := by
        rw [List.drop_eq_getElem_cons c, List.getD_eq_getElem?_getD, List.getElem?_eq_getElem c]; rfl
      rw [hdv] at he
      unfold fstO at he
      rw [if_pos (by omega)]
      refine zif_c (fun e => ?_) (fun e => ?_)
      · rw [if_pos e] at he
        exact ih (k + 1) h2 (by omega) (by simpa using he)
      · rw [if_neg e] at he
        rw [he]; exact h
    · rw [List.drop_of_length_le (by omega)] at he
      unfold fstO at he
      rw [if_neg (by omega), he]
      exact h
theorem c_mo_judge {l w : Int} (hI : iM M P R ws tx hs kp ls rf) (h : ∀ M1 L1, jM M1 (opJudge P R ws tx hs kp ls rf l w).1 → aC M M1 → Q (opJudge P R ws tx hs kp ls rf l w).2 (SH, M1, L1)) : zEv (d + 9) m_mo_judge [zR 112, zI l, zI w] (SH, M, L) Q := by
  unfold opJudge at h
  refine b_mo_judge ?_
  (first | refine g_mo_judge_0 ?_ | refine g_mo_judge_4 ?_ | refine g_mo_judge_12 ?_ | refine g_mo_judge_20 ?_ | refine g_mo_judge_37 ?_)
  refine e_mo_isList ?_
  (first | refine g_mo_judge_0 ?_ | refine g_mo_judge_4 ?_ | refine g_mo_judge_12 ?_ | refine g_mo_judge_20 ?_ | refine g_mo_judge_37 ?_)
  by_cases g : lt3 l
  · rw [if_pos g, if_neg (by decide)]
    refine e_mo_isWord hI.s ?_
    (first | refine g_mo_judge_0 ?_ | refine g_mo_judge_4 ?_ | refine g_mo_judge_12 ?_ | refine g_mo_judge_20 ?_ | refine g_mo_judge_37 ?_)
    by_cases g1 : wd ws w
    · rw [if_pos ⟨g, g1⟩] at h
      rw [if_pos g1, if_neg (by decide), zck_t (by omega)]
      cases q : ls l.toNat with
      | none =>
        rw [q] at h
        rw [hI.n.none (by omega) q, if_pos rfl]
        exact h M L hI aC.r0
      | some xs =>
        rw [q] at h
        obtain ⟨x1, x2, x3⟩ := hI.n.gl (show l.toNat < 3 by omega) q
        rw [x1, if_neg (by omega)]
        exact mo_judge_loop hI g q g1 (h M L hI aC.r0) xs 0 rfl (by omega) rfl
    · rw [if_neg (fun q => g1 q.2)] at h
      rw [if_neg g1, if_pos rfl]
      (refine e_mo_noI (k := 1) hI (by omega) (fun M1 I f => ?_); (first | refine g_mo_judge_0 ?_ | refine g_mo_judge_4 ?_ | refine g_mo_judge_12 ?_ | refine g_mo_judge_20 ?_ | refine g_mo_judge_37 ?_); exact h M1 L I f)
  · rw [if_neg (fun q => g q.1)] at h
    rw [if_neg g, if_pos rfl]
    (refine e_mo_noI (k := 1) hI (by omega) (fun M1 I f => ?_); (first | refine g_mo_judge_0 ?_ | refine g_mo_judge_4 ?_ | refine g_mo_judge_12 ?_ | refine g_mo_judge_20 ?_ | refine g_mo_judge_37 ?_); exact h M1 L I f)
/-! the image -/
theorem mo_copy_loop {r o n : Nat} (hr : zkd SH r = 20) (ho : zkd SH o = 20) (hne : r ≠ o) (hlr : zln SH r = (n : Int)) (hlo : zln SH o = (n : Int)) (hn : n ≤ 100) (h : ∀ M', (∀ j, j < n → M' o j = M r j) → cFr [o] M M' → Q 0 (SH, M', L)) :
    ∀ (m k : Nat) (Mk : zM), k + m = n → (∀ j, j < k → Mk o j = M r j) → cFr [o] M Mk → zEx (d + 1) m_mo_copies_ zb0 Q 2 ([zR r, zR o, zI (k : Int)], [], SH, Mk, L) := by
  intro m
  induction m with
  | zero =>
    intro k Mk hk h1 hf
    refine g_mo_copies__2 hr ho ?_
    rw [hlo, if_neg (by omega)]
    exact h Mk (fun j hj => h1 j (by omega)) hf
  | succ m ih =>
    intro k Mk hk h1 hf
    refine g_mo_copies__2 hr ho ?_
    rw [hlo, hlr]
    simp (disch := omega) only [zck_t, if_pos, if_neg, if_true, if_false, zwr_id, Int.toNat_natCast]
    rw [hf r (by simpa using hne), show ((k : Int) + 1) = ((k + 1 : Nat) : Int) by omega]
    refine ih (k + 1) _ (by omega) (fun j hj => ?_) (fun a ha => ?_)
    · by_cases q : j = k
      · rw [q, zmu_s]
      · rw [zmu_j q]; exact h1 j (by omega)
    · rw [zmu_kf (by simpa using ha)]; exact hf a ha
theorem e_mo_copy {r o n : Nat} (hr : zkd SH r = 20) (ho : zkd SH o = 20) (hne : r ≠ o) (hlr : zln SH r = (n : Int)) (hlo : zln SH o = (n : Int)) (hn : n ≤ 100) (h : ∀ M', (∀ j, j < n → M' o j = M r j) → cFr [o] M M' → Q 0 (SH, M', L)) : zEv (d + 1) m_mo_copies_ [zR r, zR o] (SH, M, L) Q :=
  b_mo_copies_ (g_mo_copies__0 hr ho (mo_copy_loop hr ho hne hlr hlo hn h n 0 M (by omega) (fun j hj => by omega) cFr.rf))
theorem c_mo_image (hI : iM M P R ws tx hs kp ls rf) (h : ∀ M1 L1, jM M1 (opImage P R ws tx hs kp ls rf).1 → aC M M1 → Q (opImage P R ws tx hs kp ls rf).2 (SH, M1, L1)) : zEv (d + 9) m_mo_image [zR 112] (SH, M, L) Q := by
  obtain ⟨s1, s2, s3⟩ := hI.s
  refine b_mo_image ?_
  (first | refine g_mo_image_0 ?_ | refine g_mo_image_11 ?_ | refine g_mo_image_22 ?_ | refine g_mo_image_33 ?_ | refine g_mo_image_44 ?_)
  refine e_mo_copy (n := 6) zk_113 zk_120 (by decide) zl_113 zl_120 (by omega) (fun M1 h1 f1 => ?_)
  (first | refine g_mo_image_0 ?_ | refine g_mo_image_11 ?_ | refine g_mo_image_22 ?_ | refine g_mo_image_33 ?_ | refine g_mo_image_44 ?_)
  refine e_mo_copy (n := 6) zk_114 zk_121 (by decide) zl_114 zl_121 (by omega) (fun M2 h2 f2 => ?_)
  (first | refine g_mo_image_0 ?_ | refine g_mo_image_11 ?_ | refine g_mo_image_22 ?_ | refine g_mo_image_33 ?_ | refine g_mo_image_44 ?_)
  refine e_mo_copy (n := 5) zk_115 zk_122 (by decide) zl_115 zl_122 (by omega) (fun M3 h3 f3 => ?_)
  (first | refine g_mo_image_0 ?_ | refine g_mo_image_11 ?_ | refine g_mo_image_22 ?_ | refine g_mo_image_33 ?_ | refine g_mo_image_44 ?_)
  refine e_mo_copy (n := 70) zk_116 zk_123 (by decide) zl_116 zl_123 (by omega) (fun M4 h4 f4 => ?_)
  (first | refine g_mo_image_0 ?_ | refine g_mo_image_11 ?_ | refine g_mo_image_22 ?_ | refine g_mo_image_33 ?_ | refine g_mo_image_44 ?_)
  have fa : cFr [120, 121, 122, 123] M M4 := (((f1.up (by decide)).tr (f2.up (by decide))).tr (f3.up (by decide))).tr (f4.up (by decide))
  have e112 : M4 112 = M 112 := fa 112 (by decide)
  have e2 : ∀ x : Int, zmu M4 112 11 x 112 2 = (ws.length : Int) := fun x => by rw [zmu_j (by decide), e112, s1]
  rw [zmu_j (by decide), e2, e112, s1]
  have fz : ∀ k, k ≠ 112 → zmu (zmu M4 112 11 (ws.length : Int)) 112 10 1 k = M4 k := fun k hk => by rw [zmu_kf hk, zmu_kf hk]
  have tz : ∀ j, j ≠ 10 → j ≠ 11 → zmu (zmu M4 112 11 (ws.length : Int)) 112 10 1 112 j = M 112 j := fun j a b => by rw [zmu_j a, zmu_j b, e112]
  refine h _ L ⟨fun c hc => ?_, hI.lo, hI.s.of (tz 2 (by decide) (by decide)) (by rw [fz 115 (by decide), fa 115 (by decide)]) (by rw [fz 116 (by decide), fa 116 (by decide)]), hI.t.of (tz 7 (by decide) (by decide)) (by rw [fz 118 (by decide), fa 118 (by decide)]), hI.h.of (tz 8 (by decide) (by decide)) (by rw [fz 119 (by decide), fa 119 (by decide)]), ⟨zmu_s, hI.lo, fun a ha => ?_, by rw [zmu_j (by decide), zmu_s], s2, fun i hi => ?_⟩, hI.n.of (by rw [fz 124 (by decide), fa 124 (by decide)]) (by rw [fz 125 (by decide), fa 125 (by decide)]), hI.f.of (by rw [fz 117 (by decide), fa 117 (by decide)])⟩ (fun k hk => ?_)
  · rw [fz (112 + 1) (by decide), fz (112 + 2) (by decide), fa (112 + 1) (by decide), fa (112 + 2) (by decide)]; exact hI.l c hc
  · rw [fz 120 (by decide), fz 121 (by decide), f4 120 (by decide), f3 120 (by decide), f2 120 (by decide), h1 a ha, f4 121 (by decide), f3 121 (by decide), h2 a ha, f1 114 (by decide)]
    exact hI.l a ha
  · have hi : i < ws.length := hi
    obtain ⟨a1, a2, a3, a4⟩ := s3 i hi
    rw [fz 122 (by decide), fz 123 (by decide), f4 122 (by decide), h3 i (by omega), f2 115 (by decide), f1 115 (by decide)]
    refine ⟨a1, a2, a3, fun j hj => ?_⟩
    have hj : j < (ws.getD i []).length := hj
    rw [h4 _ (by omega), f3 116 (by decide), f2 116 (by decide), f1 116 (by decide)]
    exact a4 j hj
  · rw [fz k (by omega)]
    exact fa k (by simp; omega)
theorem c_mo_on (hI : iM M P R ws tx hs kp ls rf) (h : ∀ M1 L1, jM M1 (opOn P R ws tx hs kp ls rf).1 → aC M M1 → Q (opOn P R ws tx hs kp ls rf).2 (SH, M1, L1)) : zEv (d + 9) m_mo_on [zR 112] (SH, M, L) Q := by
  refine b_mo_on ?_
  (first | refine g_mo_on_0 ?_ | refine g_mo_on_13 ?_ | refine g_mo_on_25 ?_ | refine g_mo_on_36 ?_ | refine g_mo_on_47 ?_ | refine g_mo_on_58 ?_)
  have hk := hI.k
  cases kp with
  | none =>
    refine zif_t hk ?_
    (refine e_mo_noI (k := 3) hI (by omega) (fun M1 I f => ?_); (first | refine g_mo_on_0 ?_ | refine g_mo_on_13 ?_ | refine g_mo_on_25 ?_ | refine g_mo_on_36 ?_ | refine g_mo_on_47 ?_ | refine g_mo_on_58 ?_); exact h M1 L I f)
  | some k =>
    have h : ∀ M1 L1, iM M1 k.1 k.2.1 k.2.2 tx [] (some k) ls rf → aC M M1 → Q (k.2.2.length : Int) (SH, M1, L1) := h
    obtain ⟨k1, k2, k3, k4, k5, k6⟩ := hk
    refine zif_f (by rw [k1]; decide) ?_
    refine e_mo_copy (n := 6) zk_120 zk_113 (by decide) zl_120 zl_113 (by omega) (fun M1 h1 f1 => ?_)
    (first | refine g_mo_on_0 ?_ | refine g_mo_on_13 ?_ | refine g_mo_on_25 ?_ | refine g_mo_on_36 ?_ | refine g_mo_on_47 ?_ | refine g_mo_on_58 ?_)
    refine e_mo_copy (n := 6) zk_121 zk_114 (by decide) zl_121 zl_114 (by omega) (fun M2 h2 f2 => ?_)
    (first | refine g_mo_on_0 ?_ | refine g_mo_on_13 ?_ | refine g_mo_on_25 ?_ | refine g_mo_on_36 ?_ | refine g_mo_on_47 ?_ | refine g_mo_on_58 ?_)
    refine e_mo_copy (n := 5) zk_122 zk_115 (by decide) zl_122 zl_115 (by omega) (fun M3 h3 f3 => ?_)
    (first | refine g_mo_on_0 ?_ | refine g_mo_on_13 ?_ | refine g_mo_on_25 ?_ | refine g_mo_on_36 ?_ | refine g_mo_on_47 ?_ | refine g_mo_on_58 ?_)
    refine e_mo_copy (n := 70) zk_123 zk_116 (by decide) zl_123 zl_116 (by omega) (fun M4 h4 f4 => ?_)
    (first | refine g_mo_on_0 ?_ | refine g_mo_on_13 ?_ | refine g_mo_on_25 ?_ | refine g_mo_on_36 ?_ | refine g_mo_on_47 ?_ | refine g_mo_on_58 ?_)
    have fa : cFr [113, 114, 115, 116] M M4 := (((f1.up (by decide)).tr (f2.up (by decide))).tr (f3.up (by decide))).tr (f4.up (by decide))
    have e112 : M4 112 = M 112 := fa 112 (by decide)
    rw [zmu_j (by decide), zmu_s, e112, k4]
    have fz : ∀ c, c ≠ 112 → zmu (zmu M4 112 2 (k.2.2.length : Int)) 112 8 0 c = M4 c := fun c hc => by rw [zmu_kf hc, zmu_kf hc]
    have tz : ∀ j, j ≠ 2 → j ≠ 8 → zmu (zmu M4 112 2 (k.2.2.length : Int)) 112 8 0 112 j = M 112 j := fun j a b => by rw [zmu_j b, zmu_j a, e112]
    refine h _ L ⟨fun c hc => ?_, k2, ⟨by rw [zmu_j (by decide), zmu_s], k5, fun i hi => ?_⟩, hI.t.of (tz 7 (by decide) (by decide)) (by rw [fz 118 (by decide), fa 118 (by decide)]), ⟨by rw [zmu_s]; rfl, by simp, fun i hi => by simp at hi⟩, hI.k.of (tz 10 (by decide) (by decide)) (tz 11 (by decide) (by decide)) (by rw [fz 120 (by decide), fa 120 (by decide)]) (by rw [fz 121 (by decide), fa 121 (by decide)]) (by rw [fz 122 (by decide), fa 122 (by decide)]) (by rw [fz 123 (by decide), fa 123 (by decide)]), hI.n.of (by rw [fz 124 (by decide), fa 124 (by decide)]) (by rw [fz 125 (by decide), fa 125 (by decide)]), hI.f.of (by rw [fz 117 (by decide), fa 117 (by decide)])⟩ (fun c hc => ?_)
    · rw [fz (112 + 1) (by decide), fz (112 + 2) (by decide), f4 (112 + 1) (by decide), f3 (112 + 1) (by decide), f2 (112 + 1) (by decide), h1 c hc, f4 (112 + 2) (by decide), f3 (112 + 2) (by decide), h2 c hc, f1 121 (by decide)]
      exact k3 c hc
    · obtain ⟨a1, a2, a3, a4⟩ := k6 i hi
      rw [fz 115 (by decide), fz 116 (by decide), f4 115 (by decide), h3 i (by omega), f2 122 (by decide), f1 122 (by decide)]
      refine ⟨a1, a2, a3, fun j hj => ?_⟩
      rw [h4 _ (by omega), f3 123 (by decide), f2 123 (by decide), f1 123 (by decide)]
      exact a4 j hj
    · rw [fz c (by omega)]
      exact fa c (by simp; omega)
/-! count -/
theorem mo_count2 {x : Int} (hs : mS M ws) (h : Q ((ws.map List.length).sum : Int) (SH, M, L)) :
    ∀ (n k : Nat), k + n = ws.length → zEx (d + 1) m_mo_count zb0 Q 48 ([zR 112, zI x, zI (((ws.take k).map List.length).sum : Int), zI (k : Int), zN], [], SH, M, L) := by
  obtain ⟨s1, s2, s3⟩ := hs
  have hb : ∀ k, k ≤ ws.length → ((ws.take k).map List.length).sum ≤ 14 * k := by
    intro k
    induction k with
    | zero => intro _; simp
    | succ k ih =>
      intro hk
      have := ih (by omega)
      have hl := (s3 k (by omega)).2.1
      rw [take_sum (by omega)]
      omega
  intro n
  induction n with
  | zero =>
    intro k hk
    refine g_mo_count_48 ?_
    rw [s1, if_neg (by omega), List.take_of_length_le (by omega)]
    exact h
  | succ n ih =>
    intro k hk
    have := hb k (by omega)
    have hl := (s3 k (by omega)).2.1
    have e := ih (k + 1) (by omega)
    rw [take_sum (by omega)] at e
    refine g_mo_count_48 ?_
    rw [s1, Int.toNat_natCast, (s3 k (by omega)).1]
    simp (disch := omega) only [zck_t, if_pos, if_neg, if_true, if_false, zwr_id, Int.toNat_natCast]
    rw [show ((k : Int) + 1) = ((k + 1 : Nat) : Int) by omega, show ((((ws.take k).map List.length).sum : Nat) : Int) + ((ws.getD k []).length : Int) = ((((ws.take k).map List.length).sum + (ws.getD k []).length : Nat) : Int) by omega]
    exact e
/-- the pairs up to a -/
def prN (P : Nat → Nat) : Nat → Nat
  | 0 => 0
  | a + 1 => prN P a + cnt (fun b => (P a).testBit b) a
theorem prN_6 : prN P 6 = nPairs P := by
  simp only [prN, nPairs, cnt]
  omega
theorem prN_le : ∀ a, prN P a ≤ a * a
  | 0 => by simp [prN]
  | a + 1 => by
    have h1 := prN_le a
    have h2 := cnt_le (fun b => (P a).testBit b) a
    unfold prN
    have : (a + 1) * (a + 1) = a * a + 2 * a + 1 := by rw [Nat.add_mul, Nat.mul_add]; omega
    omega
theorem mo_count3 {x : Int} {a : Nat} (ha : a < 6) (hl : lIs M 112 P R) (hp : P a < 64) (h : zEx (d + 1) m_mo_count zb0 Q 75 ([zR 112, zI x, zI (prN P (a + 1) : Int), zI ((a + 1 : Nat) : Int), zI (a : Int)], [], SH, M, L)) :
    ∀ (n k : Nat), k + n = a → zEx (d + 1) m_mo_count zb0 Q 84 ([zR 112, zI x, zI ((prN P a + cnt (fun b => (P a).testBit b) k : Nat) : Int), zI (a : Int), zI (k : Int)], [], SH, M, L) := by
  have l1 : M 113 a = (P a : Int) := (hl a ha).1
  have hq := prN_le (P := P) a
  have hq2 : a * a ≤ 25 := Nat.mul_le_mul (show a ≤ 5 by omega) (show a ≤ 5 by omega)
  intro n
  induction n with
  | zero =>
    intro k hk
    have hk : k = a := by omega
    subst hk
    refine g_mo_count_84 ?_
    rw [if_neg (by omega), zwr_id (by omega) (by omega), show ((k : Int) + 1) = ((k + 1 : Nat) : Int) by omega]
    exact h
  | succ n ih =>
    intro k hk
    have c6 := cnt_le (fun b => (P a).testBit b) k
    have e := ih (k + 1) (by omega)
    refine g_mo_count_84 ?_
    rw [Int.toNat_natCast, l1, zbit_nat (by omega) (by omega)]
    cases g : (P a).testBit k
    · rw [cnt_n g] at e
      simp only [Bool.false_eq_true, if_false, Int.add_zero]
      simp (disch := omega) only [zck_t, if_pos, if_neg, if_true, if_false, zwr_id, Int.toNat_natCast]
      rw [show ((k : Int) + 1) = ((k + 1 : Nat) : Int) by omega]
      exact e
    · rw [cnt_s g] at e
      simp only [if_true]
      simp (disch := omega) only [zck_t, if_pos, if_neg, if_true, if_false, zwr_id, Int.toNat_natCast]
      rw [show ((k : Int) + 1) = ((k + 1 : Nat) : Int) by omega, show ((prN P a + cnt (fun b => (P a).testBit b) k : Nat) : Int) + 1 = ((prN P a + (cnt (fun b => (P a).testBit b) k + 1) : Nat) : Int) by omega]
      exact e
theorem mo_count3o {x : Int} (hl : lIs M 112 P R) (hp : ∀ a, a < 6 → P a < 64) (h : Q (nPairs P : Int) (SH, M, L)) :
    ∀ (n a : Nat) (v4 : zV), a + n = 6 → zEx (d + 1) m_mo_count zb0 Q 75 ([zR 112, zI x, zI (prN P a : Int), zI (a : Int), v4], [], SH, M, L) := by
  intro n
  induction n with
  | zero =>
    intro a v4 ha
    have ha : a = 6 := by omega
    subst ha
    refine g_mo_count_75 ?_
    rw [if_neg (by decide), prN_6]
    exact h
  | succ n ih =>
    intro a v4 ha
    refine g_mo_count_75 ?_
    rw [if_pos (by omega)]
    exact mo_count3 (by omega) hl (hp a (by omega)) (ih (a + 1) _ (by omega)) a 0 (by omega)
theorem c_mo_count {x : Int} (hI : iM M P R ws tx hs kp ls rf) (h : ∀ M1 L1, jM M1 (opCount P R ws tx hs kp ls rf x).1 → aC M M1 → Q (opCount P R ws tx hs kp ls rf x).2 (SH, M1, L1)) : zEv (d + 9) m_mo_count [zR 112, zI x] (SH, M, L) Q := by
  unfold opCount at h
  have e := h M L hI aC.r0
  refine b_mo_count ?_
  refine g_mo_count_0 ?_
  rw [hI.s.1, hI.t.1, hI.h.1]
  by_cases c2 : x = 0
  · rw [if_neg (by omega), if_pos c2] at e
    rw [if_pos c2]; exact e
  · rw [if_neg c2]
    by_cases c3 : x = 1
    · rw [if_neg (by omega), if_neg c2, if_pos c3] at e
      rw [if_pos c3]; exact e
    · rw [if_neg c3]
      by_cases c4 : x = 2
      · rw [if_neg (by omega), if_neg c2, if_neg c3, if_pos c4] at e
        rw [if_pos c4]
        exact mo_count2 hI.s e ws.length 0 (by omega)
      · rw [if_neg c4]
        by_cases c5 : x = 3
        · rw [if_neg (by omega), if_neg c2, if_neg c3, if_neg c4, if_pos c5] at e
          rw [if_pos c5]
          exact mo_count3o hI.l hI.lo.1 e 6 0 zN (by omega)
        · rw [if_neg c5]
          by_cases c6 : x = 4
          · rw [if_neg (by omega), if_neg c2, if_neg c3, if_neg c4, if_neg c5, if_pos c6] at e
            rw [if_pos c6]; exact e
          · rw [if_neg c6]
            refine e_mo_isIn (g_mo_count_131 ?_)
            by_cases c1 : 11 ≤ x ∧ x ≤ 16
            · have hf := hI.f (x - 11).toNat (by omega)
              rw [if_pos c1] at e
              simp (disch := omega) only [zck_t, if_pos, if_neg, if_true, if_false, zwr_id, Int.toNat_natCast]
              rw [show (x - 10).toNat = (x - 11).toNat + 1 by omega, hf]
              exact e
            · rw [if_neg c1, if_neg c2, if_neg c3, if_neg c4, if_neg c5, if_neg c6] at e
              simp (disch := omega) only [zck_t, if_pos, if_neg, if_true, if_false, zwr_id, Int.toNat_natCast]
              exact e
end NB
