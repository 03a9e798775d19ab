/-! the reference's calls: lots, lists, the image -/
section NA
variable {d : Nat} {M M' L : zM} {Q : Int → zW → Prop} {P R : Nat → Nat} {ws : List (List Int)} {tx : List Int} {hs : List zLw} {kp : zKp} {ls : Nat → Option (List Int)} {rf : Nat → Int}
theorem aIs_swp {u : List Int} {r p : Nat} (hu : aIs M r u) (hp : p + 1 < u.length) : aIs (zmu (zmu M r p (M r (p + 1))) r (p + 1) (M r p)) r (swp u p) := by
  refine ⟨fun j hj => ?_, by rw [swp_len]; exact hu.2⟩
  rw [swp_len] at hj
  unfold swp
  rw [List.getD_eq_getElem?_getD, List.getElem?_set, hu.1 p (by omega), hu.1 (p + 1) hp]
  by_cases q : p + 1 = j
  · rw [if_pos q, if_pos (by rw [List.length_set]; omega), ← q, zmu_s]; rfl
  · rw [if_neg q, zmu_j (by omega), List.getElem?_set]
    by_cases q2 : p = j
    · rw [if_pos q2, if_pos (by omega), ← q2, zmu_s]; rfl
    · rw [if_neg q2, zmu_j (by omega), ← List.getD_eq_getElem?_getD]; exact hu.1 j hj
theorem mo_lots_loop {w n z0 x : Int} {u : List Int} {M0 : zM} (hlo : lOk P R) (hl0 : lIs M0 112 P R) (hn : n ≤ 60) (h : ∀ (M' : zM) (v9 v10 : zV) (x6 x8 : Int), aIs M' 128 (lots P n.toNat (u, z0, 0)).1 → cFr [128] M0 M' → n ≤ x8 → zEx (d + 2) m_mo_lots zb0 Q 94 ([zR 112, zI w, zI n, zI z0, zI x, zI (u.length : Int), zI x6, zI ((lots P n.toNat (u, z0, 0)).2.2 : Int), zI x8, v9, v10], [], SH, M', L)) :
    ∀ (j : Nat) (s : List Int × Int × Nat) (k : Int) (Mk : zM) (v9 v10 : zV), k + j = n → 0 ≤ k → s.2.2 ≤ k → isW s.1 → 2 ≤ s.1.length → s.1.length ≤ 14 → s.1.length = u.length → lots P j s = lots P n.toNat (u, z0, 0) → aIs Mk 128 s.1 → cFr [128] M0 Mk →
      zEx (d + 2) m_mo_lots zb0 Q 94 ([zR 112, zI w, zI n, zI z0, zI x, zI (u.length : Int), zI s.2.1, zI (s.2.2 : Int), zI k, v9, v10], [], SH, Mk, L) := by
  intro j
  induction j with
  | zero =>
    intro s k Mk v9 v10 hk hk0 ht hw h2 h14 hul hj hu hf
    have e := h Mk v9 v10 s.2.1 k
    rw [← hj] at e
    exact e hu hf (by omega)
  | succ j ih =>
    intro s k Mk v9 v10 hk hk0 ht hw h2 h14 hul hj hu hf
    have hb := lotP_in (lotZ s.2.1) (m := (s.1.length : Int) - 1) (by omega) (by omega)
    have hok := lotS_ok (P := P) hw h2 (by omega)
    have hl := hf.law hl0 (by decide) (by decide)
    refine g_mo_lots_94 ?_
    rw [if_pos (by omega), zwr_id (x := (u.length : Int) - 1) (by omega) (by omega), ← hul]
    rw [show zwr (zwr (s.2.1 * 1664525) + 1013904223) = lotZ s.2.1 from rfl, show zrem (zdiv (zand (lotZ s.2.1) 2147483647) 256) ((s.1.length : Int) - 1) = lotP (lotZ s.2.1) ((s.1.length : Int) - 1) from rfl]
    have e := ih (lotS P s) (k + 1)
    unfold lotS at e hok
    have hj2 : lots P j (lotS P s) = lots P n.toNat (u, z0, 0) := hj
    unfold lotS at hj2
    generalize hpp : lotP (lotZ s.2.1) ((s.1.length : Int) - 1) = p at *
    obtain ⟨q, rfl⟩ : ∃ q : Nat, p = (q : Int) := ⟨p.toNat, by omega⟩
    rw [Int.toNat_natCast] at *
    have ha := isW_at hw (show q < s.1.length by omega)
    have hb' := isW_at hw (show q + 1 < s.1.length by omega)
    simp (disch := omega) only [zck_t, if_pos, if_neg, if_true, if_false, zwr_id, Int.toNat_natCast]
    rw [show ((q : Int) + 1).toNat = q + 1 by omega, hu.1 q (by omega), hu.1 (q + 1) (by omega)]
    refine e_mo_passes_ hl hlo ha hb' (g_mo_lots_146 ?_)
    by_cases g : psL P (s.1.getD q 0) (s.1.getD (q + 1) 0) = true
    · rw [if_pos g] at e hok hj2 ⊢
      simp (disch := omega) only [zck_t, if_pos, if_neg, if_true, if_false, zwr_id, Int.toNat_natCast]
      rw [show ((q : Int) + 1).toNat = q + 1 by omega]
      have e2 := e _ (zI (q : Int)) (zI (Mk 128 q)) (by omega) (by omega) (by dsimp only; omega) hok.1 (by omega) (by omega) (by omega) hj2 (aIs_swp hu (by omega)) (fun a ha => by rw [zmu_kf (by simpa using ha), zmu_kf (by simpa using ha)]; exact hf a ha)
      rw [show (((s.2.2 + 1 : Nat) : Int)) = (s.2.2 : Int) + 1 by omega] at e2
      rw [hul]
      exact e2
    · rw [if_neg g] at e hok hj2 ⊢
      simp (disch := omega) only [zck_t, if_pos, if_neg, if_true, if_false, zwr_id, Int.toNat_natCast]
      rw [hul]
      exact e Mk (zI (q : Int)) v10 (by omega) (by omega) (by dsimp only; omega) hok.1 (by omega) (by omega) (by omega) hj2 hu hf
theorem mo_lots_other {w n z0 x x6 x7 : Int} {u v : List Int} {v10 : zV} (hv : aIs M 128 v) (hvl : v.length = u.length) (hu14 : u.length ≤ 14) (hu : ∀ j, j < u.length → M 116 (14 * w.toNat + j) = u.getD j 0) (hw : 0 ≤ w ∧ w < 5) {res : Nat} (h : Q (res : Int) (SH, M, L)) :
    ∀ (v' : List Int) (k t : Nat), v.drop k = v' → k ≤ v.length → t + hmO v' (u.drop k) = res → t ≤ k → zEx (d + 2) m_mo_lots zb0 Q 211 ([zR 112, zI w, zI n, zI z0, zI x, zI (u.length : Int), zI x6, zI x7, zI (t : Int), zI (k : Int), v10], [], SH, M, L) := by
  intro v'
  induction v' with
  | nil =>
    intro k t hd hk hp ht
    have : v.length ≤ k := by have := congrArg List.length hd; simp at this; omega
    refine g_mo_lots_211 ?_
    simp (disch := omega) only [zck_t, if_pos, if_neg, if_true, if_false, zwr_id, Int.toNat_natCast]
    simp [hmO] at hp
    rw [hp]
    exact h
  | cons a v' ih =>
    intro k t hd hk hp ht
    obtain ⟨h1, h2, h3⟩ := drop_cons hd
    refine g_mo_lots_211 ?_
    simp (disch := omega) only [zck_t, if_pos, if_neg, if_true, if_false, zwr_id, Int.toNat_natCast]
    rw [show (14 * w + (k : Int)).toNat = 14 * w.toNat + k by omega, hv.1 k (by omega), h1, hu k (by omega), Int.add_zero, show ((k : Int) + 1) = ((k + 1 : Nat) : Int) by omega, show ((t : Int) + 1) = ((t + 1 : Nat) : Int) by omega]
    have hdv : u.drop k = u.getD k 0 :: u.drop (k + 1) := by
      rw [List.drop_eq_getElem_cons (by omega), List.getD_eq_getElem?_getD, List.getElem?_eq_getElem (by omega)]; rfl
    rw [hdv] at hp
    simp only [hmO] at hp
    refine zif_c (fun g => ?_) (fun g => ?_)
    · rw [if_pos g] at hp
      exact ih (k + 1) t h2 (by omega) (by omega) (by omega)
    · rw [if_neg g] at hp
      exact ih (k + 1) (t + 1) h2 (by omega) (by omega) (by omega)
theorem c_mo_lots {w n z x : Int} (hI : iM M P R ws tx hs kp ls rf) (h : ∀ M1 L1, jM M1 (opLots P R ws tx hs kp ls rf w n z x).1 → aC M M1 → Q (opLots P R ws tx hs kp ls rf w n z x).2 (SH, M1, L1)) : zEv (d + 9) m_mo_lots [zR 112, zI w, zI n, zI z, zI x] (SH, M, L) Q := by
  unfold opLots at h
  refine b_mo_lots ?_
  (first | refine g_mo_lots_0 ?_ | refine g_mo_lots_5 ?_ | refine g_mo_lots_13 ?_ | refine g_mo_lots_25 ?_ | refine g_mo_lots_38 ?_ | refine g_mo_lots_46 ?_ | refine g_mo_lots_55 ?_ | refine g_mo_lots_72 ?_ | refine g_mo_lots_83 ?_ | refine g_mo_lots_94 ?_ | refine g_mo_lots_146 ?_ | refine g_mo_lots_211 ?_)
  refine e_mo_isWord hI.s ?_
  (first | refine g_mo_lots_0 ?_ | refine g_mo_lots_5 ?_ | refine g_mo_lots_13 ?_ | refine g_mo_lots_25 ?_ | refine g_mo_lots_38 ?_ | refine g_mo_lots_46 ?_ | refine g_mo_lots_55 ?_ | refine g_mo_lots_72 ?_ | refine g_mo_lots_83 ?_ | refine g_mo_lots_94 ?_ | refine g_mo_lots_146 ?_ | refine g_mo_lots_211 ?_)
  by_cases g : wd ws w
  · obtain ⟨w1, w2, w3, w4, w5⟩ := hI.w g
    rw [if_pos g] at h ⊢
    rw [if_neg (by decide)]
    by_cases g2 : n < 1
    · rw [if_pos g2] at h ⊢
      (refine e_mo_noI (k := 4) hI (by omega) (fun M1 I f => ?_); (first | refine g_mo_lots_0 ?_ | refine g_mo_lots_5 ?_ | refine g_mo_lots_13 ?_ | refine g_mo_lots_25 ?_ | refine g_mo_lots_38 ?_ | refine g_mo_lots_46 ?_ | refine g_mo_lots_55 ?_ | refine g_mo_lots_72 ?_ | refine g_mo_lots_83 ?_ | refine g_mo_lots_94 ?_ | refine g_mo_lots_146 ?_ | refine g_mo_lots_211 ?_); exact h M1 L I f)
    · rw [if_neg g2] at h ⊢
      by_cases g3 : 60 < n
      · rw [if_pos g3] at h ⊢
        (refine e_mo_noI (k := 6) hI (by omega) (fun M1 I f => ?_); (first | refine g_mo_lots_0 ?_ | refine g_mo_lots_5 ?_ | refine g_mo_lots_13 ?_ | refine g_mo_lots_25 ?_ | refine g_mo_lots_38 ?_ | refine g_mo_lots_46 ?_ | refine g_mo_lots_55 ?_ | refine g_mo_lots_72 ?_ | refine g_mo_lots_83 ?_ | refine g_mo_lots_94 ?_ | refine g_mo_lots_146 ?_ | refine g_mo_lots_211 ?_); exact h M1 L I f)
      · rw [if_neg g3] at h ⊢
        refine e_mo_isIn ?_
        (first | refine g_mo_lots_0 ?_ | refine g_mo_lots_5 ?_ | refine g_mo_lots_13 ?_ | refine g_mo_lots_25 ?_ | refine g_mo_lots_38 ?_ | refine g_mo_lots_46 ?_ | refine g_mo_lots_55 ?_ | refine g_mo_lots_72 ?_ | refine g_mo_lots_83 ?_ | refine g_mo_lots_94 ?_ | refine g_mo_lots_146 ?_ | refine g_mo_lots_211 ?_)
        by_cases g4 : x = 0 ∨ x = 1
        · rw [if_pos g4] at h
          rw [w1]
          simp (disch := omega) only [zck_t, if_pos, if_neg, if_true, if_false, zwr_id, Int.toNat_natCast]
          by_cases g5 : (gw ws w).length < 2
          · rw [if_pos g5] at h
            rw [if_pos (by omega)]
            (refine e_mo_noI (k := 3) hI (by omega) (fun M1 I f => ?_); (first | refine g_mo_lots_0 ?_ | refine g_mo_lots_5 ?_ | refine g_mo_lots_13 ?_ | refine g_mo_lots_25 ?_ | refine g_mo_lots_38 ?_ | refine g_mo_lots_46 ?_ | refine g_mo_lots_55 ?_ | refine g_mo_lots_72 ?_ | refine g_mo_lots_83 ?_ | refine g_mo_lots_94 ?_ | refine g_mo_lots_146 ?_ | refine g_mo_lots_211 ?_); exact h M1 L I f)
          · rw [if_neg g5] at h
            rw [if_neg (by omega)]
            refine e_mo_load hI g (Or.inl rfl) (fun M1 m1 I1 f1 => ?_)
            refine g_mo_lots_83 ?_
            refine mo_lots_loop (d := d + 7) (u := gw ws w) hI.lo I1.l (by omega) (fun M2 v9 v10 x6 x8 m2 f2 hx8 => ?_) n.toNat (gw ws w, z, 0) 0 M1 zN zN (by omega) (by omega) (by dsimp only; omega) w3 (by dsimp only; omega) (by dsimp only; omega) rfl rfl m1 cFr.rf
            have J := I1.cx f2 (by decide)
            have hll := (lots_len (P := P) n.toNat (gw ws w, z, 0) w3 (by dsimp only; omega) (by dsimp only; omega)).1
            refine g_mo_lots_94 ?_
            rw [if_neg (by omega)]
            by_cases g7 : x = 0
            · rw [if_pos g7] at h ⊢
              exact h M2 L J.1 ((f1.aC (by decide)).tr J.2)
            · rw [if_neg g7] at h ⊢
              obtain ⟨_, _, _, w4', _⟩ := J.1.w g
              exact mo_lots_other (d := d + 7) m2 hll w2 w4' ⟨by omega, by omega⟩ (h M2 L J.1 ((f1.aC (by decide)).tr J.2)) _ 0 0 rfl (by omega) (by simp) (by omega)
        · rw [if_neg g4] at h
          simp (disch := omega) only [zck_t, if_pos, if_neg, if_true, if_false, zwr_id, Int.toNat_natCast]
          (refine e_mo_noI (k := 2) hI (by omega) (fun M1 I f => ?_); (first | refine g_mo_lots_0 ?_ | refine g_mo_lots_5 ?_ | refine g_mo_lots_13 ?_ | refine g_mo_lots_25 ?_ | refine g_mo_lots_38 ?_ | refine g_mo_lots_46 ?_ | refine g_mo_lots_55 ?_ | refine g_mo_lots_72 ?_ | refine g_mo_lots_83 ?_ | refine g_mo_lots_94 ?_ | refine g_mo_lots_146 ?_ | refine g_mo_lots_211 ?_); exact h M1 L I f)
  · rw [if_neg g] at h ⊢
    rw [if_pos rfl]
    (refine e_mo_noI (k := 1) hI (by omega) (fun M1 I f => ?_); (first | refine g_mo_lots_0 ?_ | refine g_mo_lots_5 ?_ | refine g_mo_lots_13 ?_ | refine g_mo_lots_25 ?_ | refine g_mo_lots_38 ?_ | refine g_mo_lots_46 ?_ | refine g_mo_lots_55 ?_ | refine g_mo_lots_72 ?_ | refine g_mo_lots_83 ?_ | refine g_mo_lots_94 ?_ | refine g_mo_lots_146 ?_ | refine g_mo_lots_211 ?_); exact h M1 L I f)
/-! lists -/
theorem mo_list_loop {l n : Int} {M0 : zM} (hl : lt3 l) (h : ∀ M', (∀ j, j < 40 → M' 125 (40 * l.toNat + j) = 0) → (∀ j, ¬ (40 * l.toNat ≤ j ∧ j < 40 * l.toNat + 40) → M' 125 j = M0 125 j) → cFr [125] M0 M' → Q 1 (SH, M', L)) :
    ∀ (m k : Nat) (Mk : zM), k + m = 40 → (∀ j, j < k → Mk 125 (40 * l.toNat + j) = 0) → (∀ j, ¬ (40 * l.toNat ≤ j ∧ j < 40 * l.toNat + 40) → Mk 125 j = M0 125 j) → cFr [125] M0 Mk → zEx (d + 1) m_mo_list zb0 Q 42 ([zR 112, zI l, zI n, zI (k : Int)], [], SH, Mk, L) := by
  intro m
  induction m with
  | zero =>
    intro k Mk hk h1 h2 hf
    refine g_mo_list_42 ?_
    simp (disch := omega) only [zck_t, if_pos, if_neg, if_true, if_false, zwr_id, Int.toNat_natCast]
    exact h Mk (fun j hj => h1 j (by omega)) h2 hf
  | succ m ih =>
    intro k Mk hk h1 h2 hf
    refine g_mo_list_42 ?_
    simp (disch := omega) only [zck_t, if_pos, if_neg, if_true, if_false, zwr_id, Int.toNat_natCast]
    rw [show (40 * l + (k : Int)).toNat = 40 * l.toNat + k by omega, show ((k : Int) + 1) = ((k + 1 : Nat) : Int) by omega]
    refine ih (k + 1) _ (by omega) (fun j hj => ?_) (fun j hj => ?_) (fun a ha => ?_)
    · by_cases q : j = k
      · rw [q, zmu_s]
      · rw [zmu_j (by omega)]; exact h1 j (by omega)
    · rw [zmu_j (by omega)]; exact h2 j hj
    · rw [zmu_kf (by simpa using ha)]; exact hf a ha
theorem nM.gl {l : Nat} {xs : List Int} (hn : nM M ls) (hl : l < 3) (q : ls l = some xs) : M 124 l = (xs.length : Int) ∧ xs.length ≤ 40 ∧ ∀ j, j < xs.length → M 125 (40 * l + j) = xs.getD j 0 := by
  have := hn l hl
  rw [q] at this
  exact this
theorem nM.set {l : Nat} {ys : List Int} (hn : nM M ls) (hl : l < 3) (h1 : M' 124 l = (ys.length : Int)) (h2 : ys.length ≤ 40) (h3 : ∀ j, j < ys.length → M' 125 (40 * l + j) = ys.getD j 0) (h4 : ∀ k, k ≠ l → M' 124 k = M 124 k) (h5 : ∀ j, ¬ (40 * l ≤ j ∧ j < 40 * l + 40) → M' 125 j = M 125 j) : nM M' (lsSet ls l ys) := by
  intro k hk
  unfold lsSet
  by_cases e : k = l
  · rw [if_pos e, e]
    exact ⟨h1, h2, h3⟩
  · rw [if_neg e]
    have := hn k hk
    cases q2 : ls k with
    | none =>
      rw [q2] at this
      show M' 124 k = -9
      rw [h4 k e]; exact this
    | some zs =>
      rw [q2] at this
      have this : M 124 k = (zs.length : Int) ∧ zs.length ≤ 40 ∧ ∀ j, j < zs.length → M 125 (40 * k + j) = zs.getD j 0 := this
      exact ⟨by rw [h4 k e]; exact this.1, this.2.1, fun j hj => by rw [h5 _ (by omega)]; exact this.2.2 j hj⟩
theorem nM.none {l : Nat} (hn : nM M ls) (hl : l < 3) (q : ls l = none) : M 124 l = -9 := by
  have := hn l hl
  rw [q] at this
  exact this
theorem c_mo_list {l n : Int} (hI : iM M P R ws tx hs kp ls rf) (h : ∀ M1 L1, jM M1 (opList P R ws tx hs kp ls rf l n).1 → aC M M1 → Q (opList P R ws tx hs kp ls rf l n).2 (SH, M1, L1)) : zEv (d + 9) m_mo_list [zR 112, zI l, zI n] (SH, M, L) Q := by
  unfold opList at h
  refine b_mo_list ?_
  (first | refine g_mo_list_0 ?_ | refine g_mo_list_4 ?_ | refine g_mo_list_12 ?_ | refine g_mo_list_25 ?_ | refine g_mo_list_42 ?_)
  refine e_mo_isList ?_
  (first | refine g_mo_list_0 ?_ | refine g_mo_list_4 ?_ | refine g_mo_list_12 ?_ | refine g_mo_list_25 ?_ | refine g_mo_list_42 ?_)
  by_cases g : lt3 l
  · rw [if_pos g] at h ⊢
    rw [if_neg (by decide)]
    by_cases g2 : 40 < n
    · rw [if_pos g2] at h ⊢
      (refine e_mo_noI (k := 6) hI (by omega) (fun M1 I f => ?_); (first | refine g_mo_list_0 ?_ | refine g_mo_list_4 ?_ | refine g_mo_list_12 ?_ | refine g_mo_list_25 ?_ | refine g_mo_list_42 ?_); exact h M1 L I f)
    · rw [if_neg g2] at h ⊢
      by_cases g3 : n < 0
      · rw [if_pos g3] at h ⊢
        exact h M L hI aC.r0
      · rw [if_neg g3] at h ⊢
        simp (disch := omega) only [zck_t, if_pos, if_neg, if_true, if_false, zwr_id, Int.toNat_natCast]
        refine mo_list_loop g (fun M1 h1 h2 f1 => ?_) 40 0 _ (by omega) (fun j hj => by omega) (fun _ _ => rfl) cFr.rf
        have fa : cFr [124, 125] M M1 := fun k hk => by
          simp at hk
          rw [f1 k (by simpa using hk.2), zmu_kf hk.1]
        refine h M1 L (hI.nx fa (by decide) (hI.n.set (l := l.toNat) (by omega) ?_ ?_ (fun j hj => ?_) (fun k hk => ?_) (fun j hj => ?_))) (fa.aC (by decide))
        · rw [f1 124 (by decide), zmu_s, List.length_replicate]; omega
        · rw [List.length_replicate]; omega
        · rw [List.length_replicate] at hj
          rw [h1 j (by omega), List.getD_eq_getElem?_getD, List.getElem?_replicate, if_pos hj]; rfl
        · rw [f1 124 (by decide), zmu_j hk]
        · rw [h2 j hj, zmu_kf (by decide)]
  · rw [if_neg g] at h ⊢
    rw [if_pos rfl]
    (refine e_mo_noI (k := 1) hI (by omega) (fun M1 I f => ?_); (first | refine g_mo_list_0 ?_ | refine g_mo_list_4 ?_ | refine g_mo_list_12 ?_ | refine g_mo_list_25 ?_ | refine g_mo_list_42 ?_); exact h M1 L I f)
theorem c_mo_put {l i v : Int} (hI : iM M P R ws tx hs kp ls rf) (h : ∀ M1 L1, jM M1 (opPut P R ws tx hs kp ls rf l i v).1 → aC M M1 → Q (opPut P R ws tx hs kp ls rf l i v).2 (SH, M1, L1)) : zEv (d + 9) m_mo_put [zR 112, zI l, zI i, zI v] (SH, M, L) Q := by
  unfold opPut at h
  refine b_mo_put ?_
  (first | refine g_mo_put_0 ?_ | refine g_mo_put_4 ?_ | refine g_mo_put_12 ?_ | refine g_mo_put_40 ?_)
  refine e_mo_isList ?_
  (first | refine g_mo_put_0 ?_ | refine g_mo_put_4 ?_ | refine g_mo_put_12 ?_ | refine g_mo_put_40 ?_)
  by_cases g : lt3 l
  · rw [if_pos g] at h ⊢
    rw [if_neg (by decide)]
    cases q : ls l.toNat with
    | none =>
      rw [q] at h
      rw [hI.n.none (by omega) q]
      simp (disch := omega) only [zck_t, if_pos, if_neg, if_true, if_false, zwr_id, Int.toNat_natCast]
      exact h M L hI aC.r0
    | some xs =>
      rw [q] at h
      obtain ⟨x1, x2, x3⟩ := hI.n.gl (by omega) q
      rw [x1]
      simp (disch := omega) only [zck_t, if_pos, if_neg, if_true, if_false, zwr_id, Int.toNat_natCast]
      refine e_mo_isIn ?_
      (first | refine g_mo_put_0 ?_ | refine g_mo_put_4 ?_ | refine g_mo_put_12 ?_ | refine g_mo_put_40 ?_)
      by_cases g2 : 0 ≤ i ∧ i < xs.length
      · simp only [if_pos g2] at h
        simp (disch := omega) only [zck_t, if_pos, if_neg, if_true, if_false, zwr_id, Int.toNat_natCast]
        rw [show (40 * l + i).toNat = 40 * l.toNat + i.toNat by omega]
        have fa : cFr [125] M (zmu M 125 (40 * l.toNat + i.toNat) v) := fun k hk => zmu_kf (by simpa using hk)
        refine h _ L (hI.nx fa (by decide) (hI.n.set (l := l.toNat) (by omega) ?_ ?_ (fun j hj => ?_) (fun k hk => ?_) (fun j hj => ?_))) (fa.aC (by decide))
        · rw [zmu_kf (by decide), List.length_set]; exact x1
        · rw [List.length_set]; exact x2
        · rw [List.length_set] at hj
          rw [List.getD_eq_getElem?_getD, List.getElem?_set]
          by_cases e : i.toNat = j
          · rw [if_pos e, if_pos (by omega), e, zmu_s]; rfl
          · rw [if_neg e, zmu_j (by omega), ← List.getD_eq_getElem?_getD]; exact x3 j hj
        · rw [zmu_kf (by decide)]
        · rw [zmu_j (by omega)]
      · simp only [if_neg g2] at h
        simp (disch := omega) only [zck_t, if_pos, if_neg, if_true, if_false, zwr_id, Int.toNat_natCast]
        exact h M L hI aC.r0
  · rw [if_neg g] at h ⊢
    rw [if_pos rfl]
    (refine e_mo_noI (k := 1) hI (by omega) (fun M1 I f => ?_); (first | refine g_mo_put_0 ?_ | refine g_mo_put_4 ?_ | refine g_mo_put_12 ?_ | refine g_mo_put_40 ?_); exact h M1 L I f)
theorem c_mo_look {l i : Int} (hI : iM M P R ws tx hs kp ls rf) (h : ∀ M1 L1, jM M1 (opLook P R ws tx hs kp ls rf l i).1 → aC M M1 → Q (opLook P R ws tx hs kp ls rf l i).2 (SH, M1, L1)) : zEv (d + 9) m_mo_look [zR 112, zI l, zI i] (SH, M, L) Q := by
  unfold opLook at h
  refine b_mo_look ?_
  (first | refine g_mo_look_0 ?_ | refine g_mo_look_4 ?_ | refine g_mo_look_12 ?_ | refine g_mo_look_41 ?_)
  refine e_mo_isList ?_
  (first | refine g_mo_look_0 ?_ | refine g_mo_look_4 ?_ | refine g_mo_look_12 ?_ | refine g_mo_look_41 ?_)
  by_cases g : lt3 l
  · rw [if_pos g] at h ⊢
    rw [if_neg (by decide)]
    cases q : ls l.toNat with
    | none =>
      rw [q] at h
      rw [hI.n.none (by omega) q]
      simp (disch := omega) only [zck_t, if_pos, if_neg, if_true, if_false, zwr_id, Int.toNat_natCast]
      exact h M L hI aC.r0
    | some xs =>
      rw [q] at h
      obtain ⟨x1, x2, x3⟩ := hI.n.gl (by omega) q
      rw [x1]
      simp (disch := omega) only [zck_t, if_pos, if_neg, if_true, if_false, zwr_id, Int.toNat_natCast]
      refine e_mo_isIn ?_
      (first | refine g_mo_look_0 ?_ | refine g_mo_look_4 ?_ | refine g_mo_look_12 ?_ | refine g_mo_look_41 ?_)
      by_cases g2 : 0 ≤ i ∧ i < xs.length
      · simp only [if_pos g2] at h
        simp (disch := omega) only [zck_t, if_pos, if_neg, if_true, if_false, zwr_id, Int.toNat_natCast]
        rw [show (40 * l + i).toNat = 40 * l.toNat + i.toNat by omega, x3 _ (by omega)]
        exact h M L hI aC.r0
      · simp only [if_neg g2] at h
        simp (disch := omega) only [zck_t, if_pos, if_neg, if_true, if_false, zwr_id, Int.toNat_natCast]
        exact h M L hI aC.r0
  · rw [if_neg g] at h ⊢
    rw [if_pos rfl]
    refine e_mo_noLI (k := 1) hI (by omega) (fun M1 I f => ?_)
    (first | refine g_mo_look_0 ?_ | refine g_mo_look_4 ?_ | refine g_mo_look_12 ?_ | refine g_mo_look_41 ?_)
    exact h M1 L I f
theorem e_mo_areThere {l i n : Int} {xs : List Int} (hn : nM M ls) (hl : lt3 l) (q : ls l.toNat = some xs) (hi : zr32 i) (h0 : 0 ≤ n ∧ n < 2147483648) (h : Q (if rhas xs.length i n then 1 else 0) (SH, M, L)) : zEv (d + 1) m_mo_areThere [zR 112, zI l, zI i, zI n] (SH, M, L) Q := by
  obtain ⟨x1, x2, x3⟩ := hn.gl (by omega) q
  unfold zr32 at hi
  refine b_mo_areThere (g_mo_areThere_0 ?_)
  rw [x1, zwl_id (by omega) (by omega)]
  unfold rhas at h
  refine zif_c (fun c1 => ?_) (fun c1 => zif_c (fun c2 => ?_) (fun c2 => ?_))
  · rw [decide_eq_true (Or.inl c1)] at h; exact h
  · rw [decide_eq_false (by omega)] at h; exact h
  · rw [zck_t (by omega)]
    by_cases c3 : (xs.length : Int) < i + n
    · rw [if_pos (zcmp_pos.mpr c3)]
      rw [decide_eq_false (by omega)] at h; exact h
    · rw [if_neg (fun z => c3 (zcmp_pos.mp z))]
      rw [decide_eq_true (by omega)] at h; exact h
theorem mo_from_loop {l i n : Int} {xs : List Int} {M0 : zM} (hI : iM M0 P R ws tx hs kp ls rf) (hl : lt3 l) (q : ls l.toNat = some xs) (hn : 0 ≤ n ∧ n ≤ 14) (hi : zr32 i) (hh : rhas xs.length i n = true) (g4 : ws.length < 5)
    (h0 : ((xs.drop i.toNat).take n.toNat).all (fun a => decide (0 ≤ a ∧ a < 6)) = false → ∀ M', iM M' P R ws tx hs kp ls (upr rf 3) → aC M0 M' → Q (-3) (SH, M', L))
    (h1 : ((xs.drop i.toNat).take n.toNat).all (fun a => decide (0 ≤ a ∧ a < 6)) = true → ∀ M', iM M' P R (ws ++ [(xs.drop i.toNat).take n.toNat]) tx hs kp ls rf → aC M0 M' → Q (ws.length : Int) (SH, M', L)) :
    ∀ (m k : Nat) (Mk : zM), (k : Int) + m = n → (∀ j, j < k → Mk 128 j = xs.getD (i.toNat + j) 0) → (∀ j, j < k → 0 ≤ xs.getD (i.toNat + j) 0 ∧ xs.getD (i.toNat + j) 0 < 6) → cFr [128] M0 Mk → zEx (d + 4) m_mo_from zb0 Q 75 ([zR 112, zI l, zI i, zI n, zI (k : Int)], [], SH, Mk, L) := by
  obtain ⟨x1, x2, x3⟩ := hI.n.gl (show l.toNat < 3 by omega) q
  unfold rhas at hh
  have hh := of_decide_eq_true hh
  unfold zr32 at hi
  have hlen : ((xs.drop i.toNat).take n.toNat).length = n.toNat := by
    rw [List.length_take, List.length_drop]
    omega
  intro m
  induction m with
  | zero =>
    intro k Mk hk m1 m2 hf
    have J := hI.cx hf (by decide)
    refine g_mo_from_75 ?_
    rw [if_neg (by omega)]
    have ha : ((xs.drop i.toNat).take n.toNat).all (fun a => decide (0 ≤ a ∧ a < 6)) = true := by
      rw [List.all_eq_true]
      intro a ha
      obtain ⟨j, hj, rfl⟩ := List.mem_iff_getElem.mp ha
      have e := getD_piece (v := xs) (i := i.toNat) (k := n.toNat) (j := j) (by omega)
      rw [List.getD_eq_getElem?_getD, List.getElem?_eq_getElem hj] at e
      have e : ((xs.drop i.toNat).take n.toNat)[j] = xs.getD (i.toNat + j) 0 := e
      rw [e]
      exact decide_eq_true (m2 j (by omega))
    have hW : isW ((xs.drop i.toNat).take n.toNat) := fun a hx => of_decide_eq_true (List.all_eq_true.mp ha a hx)
    have hu : aIs Mk 128 ((xs.drop i.toNat).take n.toNat) := ⟨fun j hj => by rw [getD_piece (by omega)]; exact m1 j (by omega), by rw [zl_128, hlen]; omega⟩
    have en : zI n = zI (((xs.drop i.toNat).take n.toNat).length : Int) := by rw [hlen, Int.toNat_of_nonneg hn.1]
    have := e_mo_comes (d := d + 2) zk_128 (by decide) (by decide) (by decide) J.1 g4 hu hW (by omega) (by rw [zl_128]; omega) (Q := fun x w => zEx (d + 4) m_mo_from zb0 Q 137 ([zR 112, zI l, zI i, zI n, zI (k : Int)], [zI x], w)) (L := L) (fun M3 I3 f3 => g_mo_from_137 (h1 ha M3 I3 (J.2.tr f3)))
    rw [← en] at this
    exact this
  | succ m ih =>
    intro k Mk hk m1 m2 hf
    have J := hI.cx hf (by decide)
    refine g_mo_from_75 ?_
    rw [zmu_s, hf 125 (by decide)]
    simp (disch := omega) only [zck_t, if_pos, if_neg, if_true, if_false, zwr_id, Int.toNat_natCast]
    rw [show (40 * l + i + (k : Int)).toNat = 40 * l.toNat + (i.toNat + k) by omega, x3 _ (by omega)]
    have f2 : cFr [128] M0 (zmu Mk 128 k (xs.getD (i.toNat + k) 0)) := fun a ha => by rw [zmu_kf (by simpa using ha)]; exact hf a ha
    refine e_mo_isLetter (g_mo_from_112 ?_)
    by_cases c : 0 ≤ xs.getD (i.toNat + k) 0 ∧ xs.getD (i.toNat + k) 0 < 6
    · rw [if_pos c, if_neg (by decide), zwr_id (by omega) (by omega), show ((k : Int) + 1) = ((k + 1 : Nat) : Int) by omega]
      refine ih (k + 1) _ (by omega) (fun j hj => ?_) (fun j hj => ?_) f2
      · by_cases e : j = k
        · rw [e, zmu_s]
        · rw [zmu_j e]; exact m1 j (by omega)
      · by_cases e : j = k
        · rw [e]; exact c
        · exact m2 j (by omega)
    · rw [if_neg c, if_pos rfl]
      have J2 := hI.cx f2 (by decide)
      refine e_mo_noI (k := 3) J2.1 (by omega) (fun M3 I3 f3 => g_mo_from_121 (h0 ?_ M3 I3 (J2.2.tr f3)))
      rw [List.all_eq_false]
      refine ⟨xs.getD (i.toNat + k) 0, ?_, fun z => c (of_decide_eq_true z)⟩
      have e := getD_piece (v := xs) (i := i.toNat) (k := n.toNat) (j := k) (by omega)
      rw [← e, List.getD_eq_getElem?_getD, List.getElem?_eq_getElem (by omega)]
      exact List.getElem_mem _
theorem c_mo_from {l i n : Int} (hi : zr32 i) (hI : iM M P R ws tx hs kp ls rf) (h : ∀ M1 L1, jM M1 (opFrom P R ws tx hs kp ls rf l i n).1 → aC M M1 → Q (opFrom P R ws tx hs kp ls rf l i n).2 (SH, M1, L1)) : zEv (d + 9) m_mo_from [zR 112, zI l, zI i, zI n] (SH, M, L) Q := by
  unfold opFrom at h
  have s5 := hI.s.2.1
  refine b_mo_from ?_
  (first | refine g_mo_from_0 ?_ | refine g_mo_from_4 ?_ | refine g_mo_from_12 ?_ | refine g_mo_from_23 ?_ | refine g_mo_from_44 ?_ | refine g_mo_from_66 ?_ | refine g_mo_from_75 ?_ | refine g_mo_from_112 ?_ | refine g_mo_from_121 ?_ | refine g_mo_from_137 ?_)
  refine e_mo_isList ?_
  (first | refine g_mo_from_0 ?_ | refine g_mo_from_4 ?_ | refine g_mo_from_12 ?_ | refine g_mo_from_23 ?_ | refine g_mo_from_44 ?_ | refine g_mo_from_66 ?_ | refine g_mo_from_75 ?_ | refine g_mo_from_112 ?_ | refine g_mo_from_121 ?_ | refine g_mo_from_137 ?_)
  by_cases g : lt3 l
  · rw [if_pos g] at h ⊢
    rw [if_neg (by decide), hI.s.1]
    by_cases g2 : n < 0
    · rw [if_pos g2] at h ⊢
      (refine e_mo_noI (k := 4) hI (by omega) (fun M1 I f => ?_); (first | refine g_mo_from_0 ?_ | refine g_mo_from_4 ?_ | refine g_mo_from_12 ?_ | refine g_mo_from_23 ?_ | refine g_mo_from_44 ?_ | refine g_mo_from_66 ?_ | refine g_mo_from_75 ?_ | refine g_mo_from_112 ?_ | refine g_mo_from_121 ?_ | refine g_mo_from_137 ?_); exact h M1 L I f)
    · rw [if_neg g2] at h ⊢
      by_cases g3 : 14 < n
      · rw [if_pos (Or.inl g3)] at h
        rw [if_pos g3]
        (refine e_mo_noI (k := 6) hI (by omega) (fun M1 I f => ?_); (first | refine g_mo_from_0 ?_ | refine g_mo_from_4 ?_ | refine g_mo_from_12 ?_ | refine g_mo_from_23 ?_ | refine g_mo_from_44 ?_ | refine g_mo_from_66 ?_ | refine g_mo_from_75 ?_ | refine g_mo_from_112 ?_ | refine g_mo_from_121 ?_ | refine g_mo_from_137 ?_); exact h M1 L I f)
      · rw [if_neg g3]
        by_cases g4 : ws.length < 5
        · rw [if_neg (by omega)] at h
          rw [if_neg (by omega), zck_t (by omega)]
          cases q : ls l.toNat with
          | none =>
            rw [q] at h
            rw [hI.n.none (by omega) q, if_pos rfl]
            exact h M L hI aC.r0
          | some xs =>
            rw [q] at h
            obtain ⟨x1, x2, x3⟩ := hI.n.gl (show l.toNat < 3 by omega) q
            rw [x1, if_neg (by omega)]
            refine e_mo_areThere hI.n g q hi (by omega) ?_
            (first | refine g_mo_from_0 ?_ | refine g_mo_from_4 ?_ | refine g_mo_from_12 ?_ | refine g_mo_from_23 ?_ | refine g_mo_from_44 ?_ | refine g_mo_from_66 ?_ | refine g_mo_from_75 ?_ | refine g_mo_from_112 ?_ | refine g_mo_from_121 ?_ | refine g_mo_from_137 ?_)
            cases g6 : rhas xs.length i n with
            | false =>
              simp only [g6] at h
              exact zif_t (by simp) (h M L hI aC.r0)
            | true =>
              simp only [g6] at h
              refine zif_f (by simp) ?_
              refine mo_from_loop (d := d + 5) hI g q (by omega) hi g6 g4 (fun c M3 I3 f3 => ?_) (fun c M3 I3 f3 => ?_) n.toNat 0 M (by omega) (fun j hj => by omega) (fun j hj => by omega) cFr.rf
              · simp only [c] at h
                exact h M3 L I3 f3
              · simp only [c] at h
                exact h M3 L I3 f3
        · rw [if_pos (by omega)] at h
          rw [if_pos (by omega)]
          (refine e_mo_noI (k := 6) hI (by omega) (fun M1 I f => ?_); (first | refine g_mo_from_0 ?_ | refine g_mo_from_4 ?_ | refine g_mo_from_12 ?_ | refine g_mo_from_23 ?_ | refine g_mo_from_44 ?_ | refine g_mo_from_66 ?_ | refine g_mo_from_75 ?_ | refine g_mo_from_112 ?_ | refine g_mo_from_121 ?_ | refine g_mo_from_137 ?_); exact h M1 L I f)
  · rw [if_neg g] at h ⊢
    rw [if_pos rfl]
    (refine e_mo_noI (k := 1) hI (by omega) (fun M1 I f => ?_); (first | refine g_mo_from_0 ?_ | refine g_mo_from_4 ?_ | refine g_mo_from_12 ?_ | refine g_mo_from_23 ?_ | refine g_mo_from_44 ?_ | refine g_mo_from_66 ?_ | refine g_mo_from_75 ?_ | refine g_mo_from_112 ?_ | refine g_mo_from_121 ?_ | refine g_mo_from_137 ?_); exact h M1 L I f)
end NA
