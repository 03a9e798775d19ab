/-! the reference's calls, more -/
section MZ
variable {d : Nat} {M M' L : zM} {Q : Int → zW → Prop} {P R : Nat → Nat} {ws : List (List Int)} {tx : List Int} {hs : List zLw} {kp : zKp} {ls : Nat → Option (List Int)} {rf : Nat → Int}
theorem iM.cx {S : List Nat} (hI : iM M P R ws tx hs kp ls rf) (hf : cFr S M M') (hS : ∀ k ∈ S, 125 < k) : iM M' P R ws tx hs kp ls rf ∧ aC M M' := ⟨hI.fr hf (fun k hk => Or.inr (hS k hk)), hf.aC (fun k hk => by have := hS k hk; omega)⟩
theorem c_mo_alike {a b : Int} (hI : iM M P R ws tx hs kp ls rf) (h : ∀ M1 L1, jM M1 (opAlike P R ws tx hs kp ls rf a b).1 → aC M M1 → Q (opAlike P R ws tx hs kp ls rf a b).2 (SH, M1, L1)) : zEv (d + 9) m_mo_alike [zR 112, zI a, zI b] (SH, M, L) Q := by
  unfold opAlike at h
  refine e_mo_alike (d := d + 4) hI.s hI.l hI.lo (fun g => ?_) (fun ga gb M1 f1 => ?_)
  · rw [if_neg g] at h
    exact h _ L (hI.no (k := 1) (by omega)) (fun k hk => zmu_kf (by omega))
  · rw [if_pos ⟨ga, gb⟩] at h
    rw [sAlike_eq]
    have J := hI.cx f1 (by decide)
    exact h M1 L J.1 J.2
theorem c_mo_least {w i x : Int} (hI : iM M P R ws tx hs kp ls rf) (h : ∀ M1 L1, jM M1 (opLeast P R ws tx hs kp ls rf w i x).1 → aC M M1 → Q (opLeast P R ws tx hs kp ls rf w i x).2 (SH, M1, L1)) : zEv (d + 9) m_mo_least [zR 112, zI w, zI i, zI x] (SH, M, L) Q := by
  unfold opLeast at h
  refine b_mo_least ?_
  (first | refine g_mo_least_0 ?_ | refine g_mo_least_5 ?_ | refine g_mo_least_13 ?_ | refine g_mo_least_24 ?_ | refine g_mo_least_31 ?_ | refine g_mo_least_40 ?_ | refine g_mo_least_51 ?_ | refine g_mo_least_77 ?_)
  refine e_mo_isWord hI.s ?_
  (first | refine g_mo_least_0 ?_ | refine g_mo_least_5 ?_ | refine g_mo_least_13 ?_ | refine g_mo_least_24 ?_ | refine g_mo_least_31 ?_ | refine g_mo_least_40 ?_ | refine g_mo_least_51 ?_ | refine g_mo_least_77 ?_)
  by_cases g : wd ws w
  · obtain ⟨w1, w2, w3, w4, w5⟩ := hI.w g
    rw [if_pos g] at h ⊢
    rw [if_neg (by decide)]
    by_cases g2 : i < 0
    · rw [if_pos g2] at h ⊢
      (refine e_mo_noI (k := 4) hI (by omega) (fun M1 I f => ?_); (first | refine g_mo_least_0 ?_ | refine g_mo_least_5 ?_ | refine g_mo_least_13 ?_ | refine g_mo_least_24 ?_ | refine g_mo_least_31 ?_ | refine g_mo_least_40 ?_ | refine g_mo_least_51 ?_ | refine g_mo_least_77 ?_); exact h M1 L I f)
    · rw [if_neg g2] at h ⊢
      refine e_mo_isIn ?_
      (first | refine g_mo_least_0 ?_ | refine g_mo_least_5 ?_ | refine g_mo_least_13 ?_ | refine g_mo_least_24 ?_ | refine g_mo_least_31 ?_ | refine g_mo_least_40 ?_ | refine g_mo_least_51 ?_ | refine g_mo_least_77 ?_)
      by_cases g3 : x = 0 ∨ x = 1
      · rw [if_pos g3] at h
        simp (disch := omega) only [zck_t, if_pos, if_neg, if_true, if_false, zwr_id, Int.toNat_natCast]
        refine e_mo_load hI g (Or.inl rfl) (fun M1 m1 I1 f1 => ?_)
        have J1 := hI.cx f1 (by decide)
        have fin : ∀ (last : Bool) (M2 : zM), decide (x = 1) = last → aIs M2 131 (lw P R last (gw ws w)) → cFr [130, 131] M1 M2 → zEx (d + 9) m_mo_least zb0 Q 77 ([zR 112, zI w, zI i, zI x, zI ((gw ws w).length : Int)], [], SH, M2, L) := by
          intro last M2 hl m2 f2
          have J2 := I1.cx f2 (by decide)
          have e := h M2 L J2.1 (J1.2.tr J2.2)
          refine g_mo_least_77 ?_
          have hll : (lw P R last (gw ws w)).length = (gw ws w).length := lw_len
          rw [hl] at e
          by_cases g4 : i < ((gw ws w).length : Int)
          · rw [rget_in (by omega)] at e
            simp (disch := omega) only [zck_t, if_pos, if_neg, if_true, if_false, zwr_id, Int.toNat_natCast]
            rw [m2.1 _ (by omega)]
            exact e
          · rw [rget_out (by omega)] at e
            simp (disch := omega) only [zck_t, if_pos, if_neg, if_true, if_false, zwr_id, Int.toNat_natCast]
            exact e
        (first | refine g_mo_least_0 ?_ | refine g_mo_least_5 ?_ | refine g_mo_least_13 ?_ | refine g_mo_least_24 ?_ | refine g_mo_least_31 ?_ | refine g_mo_least_40 ?_ | refine g_mo_least_51 ?_ | refine g_mo_least_77 ?_)
        by_cases g4 : x = 1
        · rw [if_pos g4]
          exact e_mo_takes (last := true) zk_128 (by decide) zk_131 (by decide) (by decide) (by decide) (by rw [zl_131]; omega) I1.l hI.lo m1 w3 (by omega) (fun M2 m2 f2 => fin true M2 (decide_eq_true g4) m2 f2)
        · rw [if_neg g4]
          exact e_mo_takes (last := false) zk_128 (by decide) zk_131 (by decide) (by decide) (by decide) (by rw [zl_131]; omega) I1.l hI.lo m1 w3 (by omega) (fun M2 m2 f2 => fin false M2 (decide_eq_false g4) m2 f2)
      · rw [if_neg g3] at h
        simp (disch := omega) only [zck_t, if_pos, if_neg, if_true, if_false, zwr_id, Int.toNat_natCast]
        (refine e_mo_noI (k := 2) hI (by omega) (fun M1 I f => ?_); (first | refine g_mo_least_0 ?_ | refine g_mo_least_5 ?_ | refine g_mo_least_13 ?_ | refine g_mo_least_24 ?_ | refine g_mo_least_31 ?_ | refine g_mo_least_40 ?_ | refine g_mo_least_51 ?_ | refine g_mo_least_77 ?_); exact h M1 L I f)
  · rw [if_neg g] at h ⊢
    rw [if_pos rfl]
    (refine e_mo_noI (k := 1) hI (by omega) (fun M1 I f => ?_); (first | refine g_mo_least_0 ?_ | refine g_mo_least_5 ?_ | refine g_mo_least_13 ?_ | refine g_mo_least_24 ?_ | refine g_mo_least_31 ?_ | refine g_mo_least_40 ?_ | refine g_mo_least_51 ?_ | refine g_mo_least_77 ?_); exact h M1 L I f)
theorem mo_seen_loop {w a b i : Int} (hI : iM M P R ws tx hs kp ls rf) (g : wd ws w) (hi : 0 ≤ i) (h : Q (rget ((gw ws w).filter (fun c => decide (c = a ∨ c = b))) i) (SH, M, L)) :
    ∀ (v : List Int) (k t : Nat) (v7 : zV), (gw ws w).drop k = v → k ≤ (gw ws w).length → t ≤ k → (t : Int) ≤ i → rget (v.filter (fun c => decide (c = a ∨ c = b))) (i - t) = rget ((gw ws w).filter (fun c => decide (c = a ∨ c = b))) i → zEx (d + 1) m_mo_seen zb0 Q 46 ([zR 112, zI w, zI a, zI b, zI i, zI (t : Int), zI (k : Int), v7], [], SH, M, L) := by
  obtain ⟨w1, w2, w3, w4, w5⟩ := hI.w g
  intro v
  induction v with
  | nil =>
    intro k t v7 hd hk ht hti he
    have : (gw ws w).length ≤ k := by have := congrArg List.length hd; simp at this; omega
    refine g_mo_seen_46 ?_
    rw [w1]
    simp (disch := omega) only [zck_t, if_pos, if_neg, if_true, if_false, zwr_id, Int.toNat_natCast]
    rw [← he] at h
    rw [rget_out (by simp)] at h
    exact h
  | cons c v ih =>
    intro k t v7 hd hk ht hti he
    obtain ⟨h1, h2, h3⟩ := drop_cons hd
    refine g_mo_seen_46 ?_
    rw [w1]
    simp (disch := omega) only [zck_t, if_pos, if_neg, if_true, if_false, zwr_id, Int.toNat_natCast]
    rw [show (14 * w + (k : Int)).toNat = 14 * w.toNat + k by omega, w4 k (by omega), h1, show ((k : Int) + 1) = ((k + 1 : Nat) : Int) by omega]
    by_cases q : c = a ∨ c = b
    · rw [List.filter_cons_of_pos (by simpa using q)] at he
      have key : (if (t : Int) = i then Q c (SH, M, L) else zEx (d + 1) m_mo_seen zb0 Q 46 ([zR 112, zI w, zI a, zI b, zI i, zI ((t : Int) + 1), zI ((k + 1 : Nat) : Int), zI c], [], SH, M, L)) := by
        by_cases q2 : (t : Int) = i
        · rw [if_pos q2]
          rw [← he, q2, Int.sub_self] at h
          rw [rget_in (by simp)] at h
          exact h
        · rw [if_neg q2, show ((t : Int) + 1) = ((t + 1 : Nat) : Int) by omega]
          refine ih (k + 1) (t + 1) _ h2 (by omega) (by omega) (by omega) ?_
          rw [← he]
          unfold rget
          by_cases q3 : i - ((t + 1 : Nat) : Int) < ((v.filter (fun c => decide (c = a ∨ c = b))).length : Int)
          · rw [if_pos (by omega), if_pos (by rw [List.length_cons]; omega), show (i - (t : Int)).toNat = (i - ((t + 1 : Nat) : Int)).toNat + 1 by omega]
            rfl
          · rw [if_neg (by omega), if_neg (by rw [List.length_cons]; omega)]
      by_cases qa : c = a
      · rw [if_pos qa]; exact key
      · rw [if_neg qa, if_pos (by omega)]; exact key
    · rw [List.filter_cons_of_neg (by simpa using q)] at he
      rw [if_neg (fun z => q (Or.inl z)), if_neg (fun z => q (Or.inr z))]
      exact ih (k + 1) t _ h2 (by omega) (by omega) hti he
theorem c_mo_seen {w a b i : Int} (hI : iM M P R ws tx hs kp ls rf) (h : ∀ M1 L1, jM M1 (opSeen P R ws tx hs kp ls rf w a b i).1 → aC M M1 → Q (opSeen P R ws tx hs kp ls rf w a b i).2 (SH, M1, L1)) : zEv (d + 9) m_mo_seen [zR 112, zI w, zI a, zI b, zI i] (SH, M, L) Q := by
  unfold opSeen at h
  refine b_mo_seen ?_
  (first | refine g_mo_seen_0 ?_ | refine g_mo_seen_5 ?_ | refine g_mo_seen_12 ?_ | refine g_mo_seen_19 ?_ | refine g_mo_seen_27 ?_ | refine g_mo_seen_39 ?_ | refine g_mo_seen_46 ?_)
  refine e_mo_isWord hI.s ?_
  (first | refine g_mo_seen_0 ?_ | refine g_mo_seen_5 ?_ | refine g_mo_seen_12 ?_ | refine g_mo_seen_19 ?_ | refine g_mo_seen_27 ?_ | refine g_mo_seen_39 ?_ | refine g_mo_seen_46 ?_)
  by_cases g : wd ws w
  · rw [if_pos g, if_neg (by decide)]
    refine e_mo_isLetter ?_
    (first | refine g_mo_seen_0 ?_ | refine g_mo_seen_5 ?_ | refine g_mo_seen_12 ?_ | refine g_mo_seen_19 ?_ | refine g_mo_seen_27 ?_ | refine g_mo_seen_39 ?_ | refine g_mo_seen_46 ?_)
    by_cases ga : lt6 a
    · rw [if_pos ga, if_neg (by decide)]
      refine e_mo_isLetter ?_
      (first | refine g_mo_seen_0 ?_ | refine g_mo_seen_5 ?_ | refine g_mo_seen_12 ?_ | refine g_mo_seen_19 ?_ | refine g_mo_seen_27 ?_ | refine g_mo_seen_39 ?_ | refine g_mo_seen_46 ?_)
      by_cases gb : lt6 b
      · rw [if_pos ⟨g, ga, gb⟩] at h
        rw [if_pos gb, if_neg (by decide)]
        by_cases g2 : i < 0
        · rw [if_pos g2] at h ⊢
          (refine e_mo_noI (k := 4) hI (by omega) (fun M1 I f => ?_); (first | refine g_mo_seen_0 ?_ | refine g_mo_seen_5 ?_ | refine g_mo_seen_12 ?_ | refine g_mo_seen_19 ?_ | refine g_mo_seen_27 ?_ | refine g_mo_seen_39 ?_ | refine g_mo_seen_46 ?_); exact h M1 L I f)
        · rw [if_neg g2] at h ⊢
          exact mo_seen_loop hI g (by omega) (h M L hI aC.r0) (gw ws w) 0 0 zN rfl (by omega) (by omega) (by omega) (by simp)
      · rw [if_neg (fun q => gb q.2.2)] at h
        rw [if_neg gb, if_pos rfl]
        (refine e_mo_noI (k := 1) hI (by omega) (fun M1 I f => ?_); (first | refine g_mo_seen_0 ?_ | refine g_mo_seen_5 ?_ | refine g_mo_seen_12 ?_ | refine g_mo_seen_19 ?_ | refine g_mo_seen_27 ?_ | refine g_mo_seen_39 ?_ | refine g_mo_seen_46 ?_); exact h M1 L I f)
    · rw [if_neg (fun q => ga q.2.1)] at h
      rw [if_neg ga, if_pos rfl]
      (refine e_mo_noI (k := 1) hI (by omega) (fun M1 I f => ?_); (first | refine g_mo_seen_0 ?_ | refine g_mo_seen_5 ?_ | refine g_mo_seen_12 ?_ | refine g_mo_seen_19 ?_ | refine g_mo_seen_27 ?_ | refine g_mo_seen_39 ?_ | refine g_mo_seen_46 ?_); exact h M1 L I f)
  · rw [if_neg (fun q => g q.1)] at h
    rw [if_neg g, if_pos rfl]
    (refine e_mo_noI (k := 1) hI (by omega) (fun M1 I f => ?_); (first | refine g_mo_seen_0 ?_ | refine g_mo_seen_5 ?_ | refine g_mo_seen_12 ?_ | refine g_mo_seen_19 ?_ | refine g_mo_seen_27 ?_ | refine g_mo_seen_39 ?_ | refine g_mo_seen_46 ?_); exact h M1 L I f)
theorem c_mo_product {u v : Int} (hI : iM M P R ws tx hs kp ls rf) (h : ∀ M1 L1, jM M1 (opProduct P R ws tx hs kp ls rf u v).1 → aC M M1 → Q (opProduct P R ws tx hs kp ls rf u v).2 (SH, M1, L1)) : zEv (d + 9) m_mo_product [zR 112, zI u, zI v] (SH, M, L) Q := by
  unfold opProduct at h
  have s5 := hI.s.2.1
  refine b_mo_product ?_
  (first | refine g_mo_product_0 ?_ | refine g_mo_product_5 ?_ | refine g_mo_product_13 ?_ | refine g_mo_product_21 ?_ | refine g_mo_product_54 ?_ | refine g_mo_product_75 ?_ | refine g_mo_product_79 ?_ | refine g_mo_product_82 ?_)
  refine e_mo_isWord hI.s ?_
  (first | refine g_mo_product_0 ?_ | refine g_mo_product_5 ?_ | refine g_mo_product_13 ?_ | refine g_mo_product_21 ?_ | refine g_mo_product_54 ?_ | refine g_mo_product_75 ?_ | refine g_mo_product_79 ?_ | refine g_mo_product_82 ?_)
  by_cases ga : wd ws u
  · obtain ⟨u1, u2, u3, u4, u5⟩ := hI.w ga
    rw [if_pos ga, if_neg (by decide)]
    refine e_mo_isWord hI.s ?_
    (first | refine g_mo_product_0 ?_ | refine g_mo_product_5 ?_ | refine g_mo_product_13 ?_ | refine g_mo_product_21 ?_ | refine g_mo_product_54 ?_ | refine g_mo_product_75 ?_ | refine g_mo_product_79 ?_ | refine g_mo_product_82 ?_)
    by_cases gb : wd ws v
    · obtain ⟨v1, v2, v3, v4, v5⟩ := hI.w gb
      rw [if_pos ⟨ga, gb⟩] at h
      rw [if_pos gb, if_neg (by decide), u1, v1, hI.s.1]
      simp (disch := omega) only [zck_t, if_pos, if_neg, if_true, if_false, zwr_id, Int.toNat_natCast]
      by_cases g3 : 14 < (gw ws u).length + (gw ws v).length
      · rw [if_pos (Or.inl g3)] at h
        rw [if_pos (by omega)]
        (refine e_mo_noI (k := 6) hI (by omega) (fun M1 I f => ?_); (first | refine g_mo_product_0 ?_ | refine g_mo_product_5 ?_ | refine g_mo_product_13 ?_ | refine g_mo_product_21 ?_ | refine g_mo_product_54 ?_ | refine g_mo_product_75 ?_ | refine g_mo_product_79 ?_ | refine g_mo_product_82 ?_); exact h M1 L I f)
      · rw [if_neg (by omega)]
        by_cases g4 : ws.length < 5
        · rw [if_neg (by omega)] at h
          rw [if_neg (by omega)]
          refine e_mo_load hI ga (Or.inl rfl) (fun M1 m1 I1 f1 => ?_)
          (first | refine g_mo_product_0 ?_ | refine g_mo_product_5 ?_ | refine g_mo_product_13 ?_ | refine g_mo_product_21 ?_ | refine g_mo_product_54 ?_ | refine g_mo_product_75 ?_ | refine g_mo_product_79 ?_ | refine g_mo_product_82 ?_)
          refine e_mo_load2 I1 gb (Or.inl rfl) m1 (by omega) (fun M2 m2 I2 f2 => ?_)
          (first | refine g_mo_product_0 ?_ | refine g_mo_product_5 ?_ | refine g_mo_product_13 ?_ | refine g_mo_product_21 ?_ | refine g_mo_product_54 ?_ | refine g_mo_product_75 ?_ | refine g_mo_product_79 ?_ | refine g_mo_product_82 ?_)
          refine e_mo_comes zk_128 (by decide) (by decide) (by decide) I2 g4 m2 (isW_app u3 v3) (by rw [List.length_append]; omega) (by rw [zl_128]; omega) (fun M3 I3 f3 => ?_)
          (first | refine g_mo_product_0 ?_ | refine g_mo_product_5 ?_ | refine g_mo_product_13 ?_ | refine g_mo_product_21 ?_ | refine g_mo_product_54 ?_ | refine g_mo_product_75 ?_ | refine g_mo_product_79 ?_ | refine g_mo_product_82 ?_)
          exact h M3 L I3 (((f1.aC (by decide)).tr (f2.aC (by decide))).tr f3)
        · rw [if_pos (by omega)] at h
          rw [if_pos (by omega)]
          (refine e_mo_noI (k := 6) hI (by omega) (fun M1 I f => ?_); (first | refine g_mo_product_0 ?_ | refine g_mo_product_5 ?_ | refine g_mo_product_13 ?_ | refine g_mo_product_21 ?_ | refine g_mo_product_54 ?_ | refine g_mo_product_75 ?_ | refine g_mo_product_79 ?_ | refine g_mo_product_82 ?_); exact h M1 L I f)
    · rw [if_neg (fun q => gb q.2)] at h
      rw [if_neg gb, if_pos rfl]
      (refine e_mo_noI (k := 1) hI (by omega) (fun M1 I f => ?_); (first | refine g_mo_product_0 ?_ | refine g_mo_product_5 ?_ | refine g_mo_product_13 ?_ | refine g_mo_product_21 ?_ | refine g_mo_product_54 ?_ | refine g_mo_product_75 ?_ | refine g_mo_product_79 ?_ | refine g_mo_product_82 ?_); exact h M1 L I f)
  · rw [if_neg (fun q => ga q.1)] at h
    rw [if_neg ga, if_pos rfl]
    (refine e_mo_noI (k := 1) hI (by omega) (fun M1 I f => ?_); (first | refine g_mo_product_0 ?_ | refine g_mo_product_5 ?_ | refine g_mo_product_13 ?_ | refine g_mo_product_21 ?_ | refine g_mo_product_54 ?_ | refine g_mo_product_75 ?_ | refine g_mo_product_79 ?_ | refine g_mo_product_82 ?_); exact h M1 L I f)
theorem rpt_s {k : Nat} {v : List Int} : rpt (k + 1) v = rpt k v ++ v := by
  unfold rpt
  rw [List.replicate_succ', List.flatten_append]
  simp
theorem mo_power_loop {u n : Int} {M0 : zM} (g : wd ws u) (hn : 0 ≤ n) (h14 : ((gw ws u).length : Int) * n ≤ 14) (hn2 : n < 2147483648) (g4 : ws.length < 5) (h : ∀ M', iM M' P R (ws ++ [rpt n.toNat (gw ws u)]) tx hs kp ls rf → aC M0 M' → Q (ws.length : Int) (SH, M', L)) :
    ∀ (j k : Nat) (Mk : zM), (k : Int) + j = n → iM Mk P R ws tx hs kp ls rf → aIs Mk 128 (rpt k (gw ws u)) → aC M0 Mk → zEx (d + 9) m_mo_power zb0 Q 62 ([zR 112, zI u, zI n, zI ((rpt k (gw ws u)).length : Int), zI (k : Int)], [], SH, Mk, L) := by
  intro j
  induction j with
  | zero =>
    intro k Mk hk I m f
    obtain ⟨u1, u2, u3, u4, u5⟩ := I.w g
    have hkn : n.toNat = k := by omega
    have hl : (rpt k (gw ws u)).length ≤ 14 := by
      have e1 := rpt_len (k := k) (v := gw ws u)
      have e2 : ((k * (gw ws u).length : Nat) : Int) = ((gw ws u).length : Int) * n := by rw [Int.natCast_mul, Int.mul_comm, show (k : Int) = n by omega]
      omega
    refine g_mo_power_62 ?_
    rw [if_neg (by omega)]
    refine e_mo_comes zk_128 (by decide) (by decide) (by decide) I g4 m (rpt_isW u3) hl (by rw [zl_128]; omega) (fun M3 I3 f3 => g_mo_power_103 ?_)
    rw [hkn] at h
    exact h M3 I3 (f.tr f3)
  | succ j ih =>
    intro k Mk hk I m f
    obtain ⟨u1, u2, u3, u4, u5⟩ := I.w g
    have hmono : ((gw ws u).length : Int) * k ≤ ((gw ws u).length : Int) * n := Int.mul_le_mul_of_nonneg_left (by omega) (by omega)
    have hl : (rpt k (gw ws u)).length ≤ 14 := by
      have e1 := rpt_len (k := k) (v := gw ws u)
      have e2 : ((k * (gw ws u).length : Nat) : Int) = ((gw ws u).length : Int) * k := by rw [Int.natCast_mul, Int.mul_comm]
      omega
    refine g_mo_power_62 ?_
    rw [u1]
    simp (disch := omega) only [zck_t, if_pos, if_neg, if_true, if_false, zwr_id, Int.toNat_natCast]
    by_cases q : 0 < (gw ws u).length
    · rw [if_pos (by omega)]
      refine e_mo_load2 I g (Or.inl rfl) m hl (fun M1 m1 I1 f1 => g_mo_power_87 ?_)
      rw [← rpt_s] at m1 ⊢
      rw [zwr_id (by omega) (by omega), show ((k : Int) + 1) = ((k + 1 : Nat) : Int) by omega]
      exact ih (k + 1) M1 (by omega) I1 m1 (f.tr (f1.aC (by decide)))
    · rw [if_neg (by omega)]
      have hz : gw ws u = [] := List.length_eq_zero_iff.mp (by omega)
      have hr : ∀ x, rpt x (gw ws u) = [] := fun x => List.length_eq_zero_iff.mp (by rw [rpt_len, hz]; simp)
      rw [hr] at m ⊢
      rw [hr] at h
      refine e_mo_comes zk_128 (by decide) (by decide) (by decide) I g4 m (fun a ha => by cases ha) (by simp) (by rw [zl_128]; omega) (fun M3 I3 f3 => g_mo_power_103 ?_)
      exact h M3 I3 (f.tr f3)
theorem c_mo_power {u n : Int} (hn : zr32 n) (hI : iM M P R ws tx hs kp ls rf) (h : ∀ M1 L1, jM M1 (opPower P R ws tx hs kp ls rf u n).1 → aC M M1 → Q (opPower P R ws tx hs kp ls rf u n).2 (SH, M1, L1)) : zEv (d + 9) m_mo_power [zR 112, zI u, zI n] (SH, M, L) Q := by
  unfold opPower at h
  unfold zr32 at hn
  have s5 := hI.s.2.1
  refine b_mo_power ?_
  (first | refine g_mo_power_0 ?_ | refine g_mo_power_5 ?_ | refine g_mo_power_13 ?_ | refine g_mo_power_24 ?_ | refine g_mo_power_56 ?_ | refine g_mo_power_62 ?_ | refine g_mo_power_87 ?_ | refine g_mo_power_103 ?_)
  refine e_mo_isWord hI.s ?_
  (first | refine g_mo_power_0 ?_ | refine g_mo_power_5 ?_ | refine g_mo_power_13 ?_ | refine g_mo_power_24 ?_ | refine g_mo_power_56 ?_ | refine g_mo_power_62 ?_ | refine g_mo_power_87 ?_ | refine g_mo_power_103 ?_)
  by_cases g : wd ws u
  · obtain ⟨u1, u2, u3, u4, u5⟩ := hI.w g
    rw [if_pos g] at h ⊢
    rw [if_neg (by decide)]
    by_cases g2 : n < 0
    · rw [if_pos g2] at h ⊢
      (refine e_mo_noI (k := 4) hI (by omega) (fun M1 I f => ?_); (first | refine g_mo_power_0 ?_ | refine g_mo_power_5 ?_ | refine g_mo_power_13 ?_ | refine g_mo_power_24 ?_ | refine g_mo_power_56 ?_ | refine g_mo_power_62 ?_ | refine g_mo_power_87 ?_ | refine g_mo_power_103 ?_); exact h M1 L I f)
    · rw [if_neg g2] at h ⊢
      have hm := mul14 u2 (show 0 ≤ n by omega) (by omega)
      rw [u1, hI.s.1, zwl_id (by omega) (by omega), zck_t (by omega)]
      by_cases g3 : 14 < ((gw ws u).length : Int) * n
      · rw [if_pos (Or.inl g3)] at h
        rw [if_pos (zcmp_pos.mpr g3)]
        (refine e_mo_noI (k := 6) hI (by omega) (fun M1 I f => ?_); (first | refine g_mo_power_0 ?_ | refine g_mo_power_5 ?_ | refine g_mo_power_13 ?_ | refine g_mo_power_24 ?_ | refine g_mo_power_56 ?_ | refine g_mo_power_62 ?_ | refine g_mo_power_87 ?_ | refine g_mo_power_103 ?_); exact h M1 L I f)
      · rw [if_neg (fun q => g3 (zcmp_pos.mp q))]
        by_cases g4 : ws.length < 5
        · rw [if_neg (by omega)] at h
          rw [if_neg (by omega)]
          exact mo_power_loop g (by omega) (by omega) (by omega) g4 (fun M' I f => h M' L I f) n.toNat 0 M (by omega) hI ⟨fun j hj => by simp [rpt] at hj, by rw [zl_128]; simp [rpt]⟩ aC.r0
        · rw [if_pos (by omega)] at h
          rw [if_pos (by omega)]
          (refine e_mo_noI (k := 6) hI (by omega) (fun M1 I f => ?_); (first | refine g_mo_power_0 ?_ | refine g_mo_power_5 ?_ | refine g_mo_power_13 ?_ | refine g_mo_power_24 ?_ | refine g_mo_power_56 ?_ | refine g_mo_power_62 ?_ | refine g_mo_power_87 ?_ | refine g_mo_power_103 ?_); exact h M1 L I f)
  · rw [if_neg g] at h ⊢
    rw [if_pos rfl]
    (refine e_mo_noI (k := 1) hI (by omega) (fun M1 I f => ?_); (first | refine g_mo_power_0 ?_ | refine g_mo_power_5 ?_ | refine g_mo_power_13 ?_ | refine g_mo_power_24 ?_ | refine g_mo_power_56 ?_ | refine g_mo_power_62 ?_ | refine g_mo_power_87 ?_ | refine g_mo_power_103 ?_); exact h M1 L I f)
theorem c_mo_changes {u v : Int} (hI : iM M P R ws tx hs kp ls rf) (h : ∀ M1 L1, jM M1 (opChanges P R ws tx hs kp ls rf u v).1 → aC M M1 → Q (opChanges P R ws tx hs kp ls rf u v).2 (SH, M1, L1)) : zEv (d + 9) m_mo_changes [zR 112, zI u, zI v] (SH, M, L) Q := by
  unfold opChanges at h
  refine b_mo_changes ?_
  (first | refine g_mo_changes_0 ?_ | refine g_mo_changes_5 ?_ | refine g_mo_changes_13 ?_ | refine g_mo_changes_21 ?_ | refine g_mo_changes_37 ?_ | refine g_mo_changes_41 ?_ | refine g_mo_changes_57 ?_ | refine g_mo_changes_61 ?_ | refine g_mo_changes_75 ?_)
  refine e_mo_isWord hI.s ?_
  (first | refine g_mo_changes_0 ?_ | refine g_mo_changes_5 ?_ | refine g_mo_changes_13 ?_ | refine g_mo_changes_21 ?_ | refine g_mo_changes_37 ?_ | refine g_mo_changes_41 ?_ | refine g_mo_changes_57 ?_ | refine g_mo_changes_61 ?_ | refine g_mo_changes_75 ?_)
  by_cases ga : wd ws u
  · obtain ⟨u1, u2, u3, u4, u5⟩ := hI.w ga
    rw [if_pos ga, if_neg (by decide)]
    refine e_mo_isWord hI.s ?_
    (first | refine g_mo_changes_0 ?_ | refine g_mo_changes_5 ?_ | refine g_mo_changes_13 ?_ | refine g_mo_changes_21 ?_ | refine g_mo_changes_37 ?_ | refine g_mo_changes_41 ?_ | refine g_mo_changes_57 ?_ | refine g_mo_changes_61 ?_ | refine g_mo_changes_75 ?_)
    by_cases gb : wd ws v
    · obtain ⟨v1, v2, v3, v4, v5⟩ := hI.w gb
      rw [if_pos ⟨ga, gb⟩] at h
      rw [if_pos gb, if_neg (by decide)]
      refine e_mo_load hI ga (Or.inl rfl) (fun M1 m1 I1 f1 => ?_)
      (first | refine g_mo_changes_0 ?_ | refine g_mo_changes_5 ?_ | refine g_mo_changes_13 ?_ | refine g_mo_changes_21 ?_ | refine g_mo_changes_37 ?_ | refine g_mo_changes_41 ?_ | refine g_mo_changes_57 ?_ | refine g_mo_changes_61 ?_ | refine g_mo_changes_75 ?_)
      refine e_mo_load2 I1 gb (Or.inl rfl) m1 (by omega) (fun M2 m2 I2 f2 => ?_)
      (first | refine g_mo_changes_0 ?_ | refine g_mo_changes_5 ?_ | refine g_mo_changes_13 ?_ | refine g_mo_changes_21 ?_ | refine g_mo_changes_37 ?_ | refine g_mo_changes_41 ?_ | refine g_mo_changes_57 ?_ | refine g_mo_changes_61 ?_ | refine g_mo_changes_75 ?_)
      refine e_mo_load I2 gb (Or.inr rfl) (fun M3 m3 I3 f3 => ?_)
      (first | refine g_mo_changes_0 ?_ | refine g_mo_changes_5 ?_ | refine g_mo_changes_13 ?_ | refine g_mo_changes_21 ?_ | refine g_mo_changes_37 ?_ | refine g_mo_changes_41 ?_ | refine g_mo_changes_57 ?_ | refine g_mo_changes_61 ?_ | refine g_mo_changes_75 ?_)
      refine e_mo_load2 I3 ga (Or.inr rfl) m3 (by omega) (fun M4 m4 I4 f4 => ?_)
      (first | refine g_mo_changes_0 ?_ | refine g_mo_changes_5 ?_ | refine g_mo_changes_13 ?_ | refine g_mo_changes_21 ?_ | refine g_mo_changes_37 ?_ | refine g_mo_changes_41 ?_ | refine g_mo_changes_57 ?_ | refine g_mo_changes_61 ?_ | refine g_mo_changes_75 ?_)
      have m2' := f4.arr (f3.arr m2 (by decide)) (by decide)
      refine e_mo_areAlike zk_128 (by decide) zk_129 (by decide) (by decide) I4.l hI.lo m2' m4 (isW_app u3 v3) (isW_app v3 u3) (by rw [List.length_append, List.length_append]; omega) (by rw [List.length_append]; omega) (fun M5 f5 => ?_)
      (first | refine g_mo_changes_0 ?_ | refine g_mo_changes_5 ?_ | refine g_mo_changes_13 ?_ | refine g_mo_changes_21 ?_ | refine g_mo_changes_37 ?_ | refine g_mo_changes_41 ?_ | refine g_mo_changes_57 ?_ | refine g_mo_changes_61 ?_ | refine g_mo_changes_75 ?_)
      have J := I4.cx f5 (by decide)
      have e := h M5 L J.1 (((((f1.aC (by decide)).tr (f2.aC (by decide))).tr (f3.aC (by decide))).tr (f4.aC (by decide))).tr J.2)
      by_cases gl : lw P R false (gw ws u ++ gw ws v) = lw P R false (gw ws v ++ gw ws u)
      · rw [if_pos gl] at e ⊢; exact e
      · rw [if_neg gl] at e ⊢; exact e
    · rw [if_neg (fun q => gb q.2)] at h
      rw [if_neg gb, if_pos rfl]
      (refine e_mo_noI (k := 1) hI (by omega) (fun M1 I f => ?_); (first | refine g_mo_changes_0 ?_ | refine g_mo_changes_5 ?_ | refine g_mo_changes_13 ?_ | refine g_mo_changes_21 ?_ | refine g_mo_changes_37 ?_ | refine g_mo_changes_41 ?_ | refine g_mo_changes_57 ?_ | refine g_mo_changes_61 ?_ | refine g_mo_changes_75 ?_); exact h M1 L I f)
  · rw [if_neg (fun q => ga q.1)] at h
    rw [if_neg ga, if_pos rfl]
    (refine e_mo_noI (k := 1) hI (by omega) (fun M1 I f => ?_); (first | refine g_mo_changes_0 ?_ | refine g_mo_changes_5 ?_ | refine g_mo_changes_13 ?_ | refine g_mo_changes_21 ?_ | refine g_mo_changes_37 ?_ | refine g_mo_changes_41 ?_ | refine g_mo_changes_57 ?_ | refine g_mo_changes_61 ?_ | refine g_mo_changes_75 ?_); exact h M1 L I f)
theorem mo_free1_loop {s : Nat} (hs : s < 64) (hl : lIs M 112 P R) (hp : ∀ a, a < 6 → P a < 64) (h : Q (if frB P s then 1 else 0) (SH, M, L)) :
    ∀ (n k : Nat), k + n = 6 → (∀ a, a < k → s.testBit a = true → (s ^^^ (s &&& 2 ^ a)) ^^^ ((s ^^^ (s &&& 2 ^ a)) &&& P a) = 0) → zEx (d + 1) m_mo_isFree zb0 Q 2 ([zR 112, zI (s : Int), zI (k : Int)], [], SH, M, L) := by
  intro n
  induction n with
  | zero =>
    intro k hk hall
    have hk : k = 6 := by omega
    subst hk
    refine g_mo_isFree_2 ?_
    rw [if_neg (by decide)]
    rw [if_pos (frB_iff.mpr hall)] at h
    exact h
  | succ n ih =>
    intro k hk hall
    have hpk := hp k (by omega)
    have ek := p6 (a := k) (by omega)
    have l2 : s ^^^ (s &&& 2 ^ k) < 2 ^ 6 := xor_and_lt (by omega)
    refine g_mo_isFree_2 ?_
    have hl1 : M 113 k = (P k : Int) := (hl k (by omega)).1
    simp (disch := omega) only [zck_t, if_pos, if_neg, if_true, if_false, zwr_id, Int.toNat_natCast, hl1, zbit_if, zshl_1, zandn_nat]
    rw [show ((k : Int) + 1) = ((k + 1 : Nat) : Int) by omega]
    by_cases g : s.testBit k = true
    · rw [if_pos g]
      by_cases g2 : (s ^^^ (s &&& 2 ^ k)) ^^^ ((s ^^^ (s &&& 2 ^ k)) &&& P k) = 0
      · rw [if_pos (by omega)]
        refine ih (k + 1) (by omega) (fun a ha hb => ?_)
        by_cases q : a = k
        · subst q; exact g2
        · exact hall a (by omega) hb
      · rw [if_neg (by omega)]
        rw [if_neg (fun q => g2 (frB_iff.mp q k (by omega) g))] at h
        exact h
    · rw [if_neg g]
      refine ih (k + 1) (by omega) (fun a ha hb => ?_)
      by_cases q : a = k
      · subst q; exact absurd hb g
      · exact hall a (by omega) hb
theorem e_mo_isFree {s : Nat} (hs : s < 64) (hl : lIs M 112 P R) (hp : ∀ a, a < 6 → P a < 64) (h : Q (if frB P s then 1 else 0) (SH, M, L)) : zEv (d + 1) m_mo_isFree [zR 112, zI (s : Int)] (SH, M, L) Q :=
  b_mo_isFree (g_mo_isFree_0 (mo_free1_loop hs hl hp h 6 0 (by omega) (fun a ha => by omega)))
theorem mo_free_loop (hl : lIs M 112 P R) (hp : ∀ a, a < 6 → P a < 64) (h : Q (cnt (frB P) 64 : Int) (SH, M, L)) :
    ∀ (n k : Nat), k + n = 64 → zEx (d + 2) m_mo_free zb0 Q 4 ([zR 112, zI (cnt (frB P) k : Int), zI (k : Int)], [], SH, M, L) := by
  intro n
  induction n with
  | zero =>
    intro k hk
    have hk : k = 64 := by omega
    subst hk
    refine g_mo_free_4 ?_
    rw [if_neg (by decide)]
    exact h
  | succ n ih =>
    intro k hk
    have c6 := cnt_le (frB P) k
    have e := ih (k + 1) (by omega)
    refine g_mo_free_4 ?_
    simp (disch := omega) only [zck_t, if_pos, if_neg, if_true, if_false, zwr_id, Int.toNat_natCast]
    refine e_mo_isFree (by omega) hl hp (g_mo_free_16 ?_)
    simp (disch := omega) only [zck_t, if_pos, if_neg, if_true, if_false, zwr_id, Int.toNat_natCast]
    rw [show ((k : Int) + 1) = ((k + 1 : Nat) : Int) by omega]
    cases g : frB P k
    · rw [cnt_n g] at e
      simpa using e
    · rw [cnt_s g] at e
      exact e
theorem c_mo_free (hI : iM M P R ws tx hs kp ls rf) (h : ∀ M1 L1, jM M1 (opFree P R ws tx hs kp ls rf).1 → aC M M1 → Q (opFree P R ws tx hs kp ls rf).2 (SH, M1, L1)) : zEv (d + 9) m_mo_free [zR 112] (SH, M, L) Q :=
  b_mo_free (g_mo_free_0 (mo_free_loop hI.l hI.lo.1 (h M L hI aC.r0) 64 0 (by omega)))
end MZ
