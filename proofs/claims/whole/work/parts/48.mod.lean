/-! the reference: beginnings, common ones, odds -/
section ND
variable {d : Nat} {M M' L : zM} {Q : Int → zW → Prop} {P R : Nat → Nat} {ws : List (List Int)} {tx : List Int} {hs : List zLw} {kp : zKp} {ls : Nat → Option (List Int)} {rf : Nat → Int}
theorem mo_begins_loop {v u i : Int} {M0 : zM} {x0 : List Int} (hI : iM M0 P R ws tx hs kp ls rf) (gu : wd ws u) (hi : -1 ≤ i)
    (h0 : tks (psL P) (gw ws u) x0 = none → ∀ M', iM M' P R ws tx hs kp ls rf → aC M0 M' → Q (if i = -1 then 0 else -9) (SH, M', L))
    (h1 : ∀ x, tks (psL P) (gw ws u) x0 = some x → ∀ M', iM M' P R ws tx hs kp ls rf → aC M0 M' → Q (if i = -1 then 1 else rget (lw P R false x) i) (SH, M', L)) :
    ∀ (u' : List Int) (k : Nat) (x : List Int) (Mk : zM) (v6 : zV), (gw ws u).drop k = u' → k ≤ (gw ws u).length → isW x → x.length ≤ 14 → tks (psL P) (gw ws u) x0 = tks (psL P) u' x → aIs Mk 128 x → cFr [128] M0 Mk →
      zEx (d + 5) m_mo_begins zb0 Q 49 ([zR 112, zI v, zI u, zI i, zI (x.length : Int), zI (k : Int), v6], [], SH, Mk, L) := by
  intro u'
  induction u' with
  | nil =>
    intro k x Mk v6 hd hk hx hx14 he hu hf
    have J := hI.cx hf (by decide)
    obtain ⟨w1, w2, w3, w4, w5⟩ := J.1.w gu
    have : (gw ws u).length ≤ k := by have := congrArg List.length hd; simp at this; omega
    refine g_mo_begins_49 ?_
    rw [w1, zck_t (by omega), if_neg (by omega)]
    by_cases g : i = -1
    · rw [if_pos g]
      have e := h1 x he Mk J.1 J.2
      rw [if_pos g] at e
      exact e
    · rw [if_neg g]
      refine e_mo_takes (last := false) zk_128 (by decide) zk_131 (by decide) (by decide) (by decide) (by rw [zl_131]; omega) J.1.l hI.lo hu hx (by omega) (fun M2 m2 f2 => g_mo_begins_145 ?_)
      have J2 := J.1.cx f2 (by decide)
      have e := h1 x he M2 J2.1 (J.2.tr J2.2)
      rw [if_neg g] at e
      have hll : (lw P R false x).length = x.length := lw_len
      by_cases g4 : i < (x.length : Int)
      · rw [rget_in (by omega)] at e
        simp (disch := omega) only [zck_t, if_pos, if_neg, if_true, if_false, zwr_id, Int.toNat_natCast]
        rw [m2.1 _ (by omega)]
        exact e
      · rw [rget_out (by omega)] at e
        simp (disch := omega) only [zck_t, if_pos, if_neg, if_true, if_false, zwr_id, Int.toNat_natCast]
        exact e
  | cons a u' ih =>
    intro k x Mk v6 hd hk hx hx14 he hu hf
    have J := hI.cx hf (by decide)
    obtain ⟨w1, w2, w3, w4, w5⟩ := J.1.w gu
    obtain ⟨q1, q2, q3⟩ := drop_cons hd
    refine g_mo_begins_49 ?_
    rw [w1]
    simp (disch := omega) only [zck_t, if_pos, if_neg, if_true, if_false, zwr_id, Int.toNat_natCast]
    rw [show (14 * u + (k : Int)).toNat = 14 * u.toNat + k by omega, w4 k (by omega), q1]
    refine e_mo_placeOf zk_128 (by rw [zl_128]; omega) J.1.l hI.lo hu hx (fun hn => g_mo_begins_82 ?_) (fun p hp hs => g_mo_begins_82 ?_)
    · rw [tks_none hn] at he
      have e := h0 he Mk J.1 J.2
      rw [if_pos rfl]
      by_cases g : i = -1
      · rw [if_pos g] at e ⊢; exact e
      · rw [if_neg g] at e ⊢; exact e
    · rw [tks_some hs] at he
      rw [if_neg (by omega)]
      refine e_mo_goes zk_128 (by rw [zl_128]; omega) hu hp rfl (fun M1 m1 f1 => g_mo_begins_114 ?_)
      have hxl : (x.take p ++ x.drop (p + 1)).length = x.length - 1 := by simp; omega
      rw [zwr_id (by omega) (by omega), zwr_id (by omega) (by omega), show ((k : Int) + 1) = ((k + 1 : Nat) : Int) by omega, show (x.length : Int) + -1 = ((x.take p ++ x.drop (p + 1)).length : Int) by omega]
      exact ih (k + 1) _ M1 _ q2 (by omega) (isW_del hx p) (by omega) he m1 (hf.tr f1)
theorem c_mo_begins {v u i : Int} (hI : iM M P R ws tx hs kp ls rf) (h : ∀ M1 L1, jM M1 (opBegins P R ws tx hs kp ls rf v u i).1 → aC M M1 → Q (opBegins P R ws tx hs kp ls rf v u i).2 (SH, M1, L1)) : zEv (d + 9) m_mo_begins [zR 112, zI v, zI u, zI i] (SH, M, L) Q := by
  unfold opBegins at h
  refine b_mo_begins ?_
  (first | refine g_mo_begins_0 ?_ | refine g_mo_begins_5 ?_ | refine g_mo_begins_13 ?_ | refine g_mo_begins_21 ?_ | refine g_mo_begins_33 ?_ | refine g_mo_begins_44 ?_ | refine g_mo_begins_49 ?_ | refine g_mo_begins_82 ?_ | refine g_mo_begins_114 ?_ | refine g_mo_begins_145 ?_)
  refine e_mo_isWord hI.s ?_
  (first | refine g_mo_begins_0 ?_ | refine g_mo_begins_5 ?_ | refine g_mo_begins_13 ?_ | refine g_mo_begins_21 ?_ | refine g_mo_begins_33 ?_ | refine g_mo_begins_44 ?_ | refine g_mo_begins_49 ?_ | refine g_mo_begins_82 ?_ | refine g_mo_begins_114 ?_ | refine g_mo_begins_145 ?_)
  by_cases ga : wd ws v
  · obtain ⟨u1, u2, u3, u4, u5⟩ := hI.w ga
    rw [if_pos ga, if_neg (by decide)]
    refine e_mo_isWord hI.s ?_
    (first | refine g_mo_begins_0 ?_ | refine g_mo_begins_5 ?_ | refine g_mo_begins_13 ?_ | refine g_mo_begins_21 ?_ | refine g_mo_begins_33 ?_ | refine g_mo_begins_44 ?_ | refine g_mo_begins_49 ?_ | refine g_mo_begins_82 ?_ | refine g_mo_begins_114 ?_ | refine g_mo_begins_145 ?_)
    by_cases gb : wd ws u
    · rw [if_pos ⟨ga, gb⟩] at h
      rw [if_pos gb, if_neg (by decide)]
      by_cases g2 : i < -1
      · rw [if_pos g2] at h ⊢
        (refine e_mo_noI (k := 4) hI (by omega) (fun M1 I f => ?_); (first | refine g_mo_begins_0 ?_ | refine g_mo_begins_5 ?_ | refine g_mo_begins_13 ?_ | refine g_mo_begins_21 ?_ | refine g_mo_begins_33 ?_ | refine g_mo_begins_44 ?_ | refine g_mo_begins_49 ?_ | refine g_mo_begins_82 ?_ | refine g_mo_begins_114 ?_ | refine g_mo_begins_145 ?_); exact h M1 L I f)
      · rw [if_neg g2] at h ⊢
        refine e_mo_load hI ga (Or.inl rfl) (fun M1 m1 I1 f1 => ?_)
        (first | refine g_mo_begins_0 ?_ | refine g_mo_begins_5 ?_ | refine g_mo_begins_13 ?_ | refine g_mo_begins_21 ?_ | refine g_mo_begins_33 ?_ | refine g_mo_begins_44 ?_ | refine g_mo_begins_49 ?_ | refine g_mo_begins_82 ?_ | refine g_mo_begins_114 ?_ | refine g_mo_begins_145 ?_)
        refine mo_begins_loop (d := d + 4) (x0 := gw ws v) I1 gb (by omega) (fun q M2 I2 f2 => ?_) (fun x q M2 I2 f2 => ?_) (gw ws u) 0 (gw ws v) M1 zN rfl (by omega) u3 u2 rfl m1 cFr.rf
        · have e := h M2 L
          rw [q] at e
          exact e I2 ((f1.aC (by decide)).tr f2)
        · have e := h M2 L
          rw [q] at e
          exact e I2 ((f1.aC (by decide)).tr f2)
    · rw [if_neg (fun q => gb q.2)] at h
      rw [if_neg gb, if_pos rfl]
      (refine e_mo_noI (k := 1) hI (by omega) (fun M1 I f => ?_); (first | refine g_mo_begins_0 ?_ | refine g_mo_begins_5 ?_ | refine g_mo_begins_13 ?_ | refine g_mo_begins_21 ?_ | refine g_mo_begins_33 ?_ | refine g_mo_begins_44 ?_ | refine g_mo_begins_49 ?_ | refine g_mo_begins_82 ?_ | refine g_mo_begins_114 ?_ | refine g_mo_begins_145 ?_); exact h M1 L I f)
  · rw [if_neg (fun q => ga q.1)] at h
    rw [if_neg ga, if_pos rfl]
    (refine e_mo_noI (k := 1) hI (by omega) (fun M1 I f => ?_); (first | refine g_mo_begins_0 ?_ | refine g_mo_begins_5 ?_ | refine g_mo_begins_13 ?_ | refine g_mo_begins_21 ?_ | refine g_mo_begins_33 ?_ | refine g_mo_begins_44 ?_ | refine g_mo_begins_49 ?_ | refine g_mo_begins_82 ?_ | refine g_mo_begins_114 ?_ | refine g_mo_begins_145 ?_); exact h M1 L I f)
/-! common ones -/
theorem tk_ne {u : List Int} {a : Int} {v : List Int} (h : tk (psL P) a u = some v) : 0 < u.length := by have := tk_len h; omega
theorem ntz_eq {s a : Nat} (hs : s < 64) (ha : s.testBit a = true) (hl : ∀ i, i < a → s.testBit i = false) : ntz s = a := by
  have h0 : s ≠ 0 := fun z => by rw [z, Nat.zero_testBit] at ha; cases ha
  obtain ⟨h1, h2, h3⟩ := ntz_is (n := s) (by omega) h0
  rcases Nat.lt_trichotomy (ntz s) a with q | q | q
  · rw [hl _ q] at h2; cases h2
  · exact q
  · rw [h3 _ q] at ha; cases ha
theorem bits_zero {s : Nat} (hs : s < 64) (h : ∀ i, i < 6 → s.testBit i = false) : s = 0 := by
  apply Nat.eq_of_testBit_eq
  intro i
  rw [Nat.zero_testBit]
  by_cases q : i < 6
  · exact h i q
  · exact Nat.testBit_lt_two_pow (Nat.lt_of_lt_of_le hs (show 2 ^ 6 ≤ 2 ^ i from Nat.pow_le_pow_right (by omega) (by omega)))
theorem cmn_z {n : Nat} {x y : List Int} (h : rdy P x &&& rdy P y = 0) : cmn P n x y = [] := by
  cases n with
  | zero => rfl
  | succ n => rw [cmn_s, if_pos h]
theorem mo_common_loop {u v i : Int} {M0 : zM} {c0 : List Int} (hI : iM M0 P R ws tx hs kp ls rf) (hi : -1 ≤ i) (h : ∀ M', iM M' P R ws tx hs kp ls rf → aC M0 M' → Q (if i = -1 then (c0.length : Int) else rget (lw P R false c0) i) (SH, M', L)) :
    ∀ (m a k : Nat) (t x y : List Int) (Mk : zM) (v8 v9 : zV), 7 * x.length + (6 - a) ≤ m → a ≤ 6 → x.length ≤ k → t.length + k ≤ 14 → y.length ≤ 14 → isW x → isW y → isW t → c0 = t ++ cmn P k x y → (∀ b, b < a → (rdy P x &&& rdy P y).testBit b = false) → aIs Mk 128 x → aIs Mk 129 y → aIs Mk 136 t → cFr [128, 129, 136] M0 Mk →
      zEx (d + 4) m_mo_common zb0 Q 64 ([zR 112, zI u, zI v, zI i, zI (x.length : Int), zI (y.length : Int), zI (t.length : Int), zI (a : Int), v8, v9], [], SH, Mk, L) := by
  have fin : ∀ (k : Nat) (t x y : List Int) (Mk : zM) (v8 v9 : zV), isW x → isW y → isW t → t.length ≤ 14 → c0 = t ++ cmn P k x y → (∀ b, b < 6 → (rdy P x &&& rdy P y).testBit b = false) → aIs Mk 136 t → cFr [128, 129, 136] M0 Mk → (if i = -1 then Q (t.length : Int) (SH, Mk, L) else zEv (d + 3) m_mo_takes [zR 112, zR 136, zI (t.length : Int), zR 131, zI 0] (SH, Mk, L) (fun _ w => zEx (d + 4) m_mo_common zb0 Q 188 ([zR 112, zI u, zI v, zI i, zI (x.length : Int), zI (y.length : Int), zI (t.length : Int), zI 6, v8, v9], [], w))) := by
    intro k t x y Mk v8 v9 hx hy ht ht14 he hall hu hf
    have J := hI.cx hf (by decide)
    have hz : rdy P x &&& rdy P y = 0 := bits_zero (Nat.lt_of_le_of_lt Nat.and_le_left (rdy_lt hx)) hall
    rw [cmn_z hz, List.append_nil] at he
    subst he
    by_cases g : i = -1
    · have e := h Mk J.1 J.2
      rw [if_pos g] at e ⊢
      exact e
    · rw [if_neg g]
      refine e_mo_takes (last := false) zk_136 (by decide) zk_131 (by decide) (by decide) (by decide) (by rw [zl_131]; omega) J.1.l hI.lo hu ht (by omega) (fun M2 m2 f2 => g_mo_common_188 ?_)
      have J2 := J.1.cx f2 (by decide)
      have e := h M2 J2.1 (J.2.tr J2.2)
      rw [if_neg g] at e
      have hll : (lw P R false c0).length = c0.length := lw_len
      by_cases g4 : i < (c0.length : Int)
      · rw [rget_in (by omega)] at e
        simp (disch := omega) only [zck_t, if_pos, if_neg, if_true, if_false, zwr_id, Int.toNat_natCast]
        rw [m2.1 _ (by omega)]
        exact e
      · rw [rget_out (by omega)] at e
        simp (disch := omega) only [zck_t, if_pos, if_neg, if_true, if_false, zwr_id, Int.toNat_natCast]
        exact e
  intro m
  induction m with
  | zero =>
    intro a k t x y Mk v8 v9 hm ha hk ht hy14 hx hy htw he hall hux huy hut hf
    have ha6 : a = 6 := by omega
    subst ha6
    refine g_mo_common_64 ?_
    rw [if_neg (by decide)]
    exact fin k t x y Mk v8 v9 hx hy htw (by omega) he hall hut hf
  | succ m ih =>
    intro a k t x y Mk v8 v9 hm ha hk ht hy14 hx hy htw he hall hux huy hut hf
    by_cases ga : a = 6
    · subst ga
      refine g_mo_common_64 ?_
      rw [if_neg (by decide)]
      exact fin k t x y Mk v8 v9 hx hy htw (by omega) he hall hut hf
    · have J := hI.cx hf (by decide)
      have hbx := rdy_bit hI.lo (a := (a : Int)) (by omega) hx
      have hby := rdy_bit hI.lo (a := (a : Int)) (by omega) hy
      rw [Int.toNat_natCast] at hbx hby
      have hlt : rdy P x &&& rdy P y < 64 := Nat.lt_of_le_of_lt Nat.and_le_left (rdy_lt hx)
      have skip : ∀ (v8 v9 : zV), (rdy P x &&& rdy P y).testBit a = false → zEx (d + 4) m_mo_common zb0 Q 64 ([zR 112, zI u, zI v, zI i, zI (x.length : Int), zI (y.length : Int), zI (t.length : Int), zI (zwr ((a : Int) + 1)), v8, v9], [], SH, Mk, L) := by
        intro v8 v9 hb
        rw [zwr_id (by omega) (by omega), show ((a : Int) + 1) = ((a + 1 : Nat) : Int) by omega]
        refine ih (a + 1) k t x y Mk v8 v9 (by omega) (by omega) hk ht hy14 hx hy htw he (fun b hb2 => ?_) hux huy hut hf
        by_cases e : b = a
        · rw [e]; exact hb
        · exact hall b (by omega)
      refine g_mo_common_64 ?_
      rw [if_pos (by omega)]
      refine e_mo_placeOf zk_128 (by rw [zl_128]; omega) J.1.l hI.lo hux hx (fun hn => g_mo_common_83 ?_) (fun p hp hs => g_mo_common_83 ?_)
      · have hb : (rdy P x &&& rdy P y).testBit a = false := by rw [Nat.testBit_and, hbx, hn]; rfl
        refine e_mo_placeOf zk_129 (by rw [zl_129]; omega) J.1.l hI.lo huy hy (fun hn2 => g_mo_common_97 ?_) (fun p2 hp2 hs2 => g_mo_common_97 ?_)
        · rw [if_pos rfl]; exact skip _ _ hb
        · rw [if_pos rfl]; exact skip _ _ hb
      · refine e_mo_placeOf zk_129 (by rw [zl_129]; omega) J.1.l hI.lo huy hy (fun hn2 => g_mo_common_97 ?_) (fun p2 hp2 hs2 => g_mo_common_97 ?_)
        · have hb : (rdy P x &&& rdy P y).testBit a = false := by rw [Nat.testBit_and, hby, hn2]; simp
          rw [if_neg (by omega), if_pos rfl]; exact skip _ _ hb
        · have hb : (rdy P x &&& rdy P y).testBit a = true := by rw [Nat.testBit_and, hbx, hby, hs, hs2]; rfl
          have hnt := ntz_eq hlt hb hall
          have hne : rdy P x &&& rdy P y ≠ 0 := fun z => by rw [z, Nat.zero_testBit] at hb; cases hb
          have hx0 := tk_ne hs
          obtain ⟨k', rfl⟩ : ∃ k', k = k' + 1 := ⟨k - 1, by omega⟩
          rw [cmn_s, if_neg hne, hnt, ← tk_erase hs, ← tk_erase hs2] at he
          rw [if_neg (by omega), if_neg (by omega)]
          simp (disch := omega) only [zck_t, if_pos, if_neg, if_true, if_false, zwr_id, Int.toNat_natCast]
          have hux' : aIs (zmu Mk 136 t.length (a : Int)) 128 x := ⟨fun j hj => by rw [zmu_k (by decide)]; exact hux.1 j hj, hux.2⟩
          refine e_mo_goes zk_128 (by rw [zl_128]; omega) hux' hp rfl (fun M1 m1 f1 => g_mo_common_142 ?_)
          have huy' : aIs M1 129 y := f1.arr ⟨fun j hj => by rw [zmu_k (by decide)]; exact huy.1 j hj, huy.2⟩ (by decide)
          refine e_mo_goes zk_129 (by rw [zl_129]; omega) huy' hp2 rfl (fun M2 m2 f2 => g_mo_common_153 ?_)
          have hxl : (x.take p ++ x.drop (p + 1)).length = x.length - 1 := by simp; omega
          have hyl : (y.take p2 ++ y.drop (p2 + 1)).length = y.length - 1 := by simp; omega
          rw [zwr_id (by omega) (by omega), zwr_id (by omega) (by omega), show (x.length : Int) + -1 = ((x.take p ++ x.drop (p + 1)).length : Int) by omega, show (y.length : Int) + -1 = ((y.take p2 ++ y.drop (p2 + 1)).length : Int) by omega]
          have e2 := ih 0 k' (t ++ [(a : Int)]) (x.take p ++ x.drop (p + 1)) (y.take p2 ++ y.drop (p2 + 1)) M2 (zI (p : Int)) (zI (p2 : Int)) (by omega) (by omega) (by omega) (by simp; omega) (by omega) (isW_del hx p) (isW_del hy p2) (fun b hb2 => ?_) (by rw [he]; simp) (fun b hb2 => by omega) (f2.arr m1 (by decide)) m2 ⟨fun j hj => ?_, by rw [zl_136]; simp; omega⟩ (fun c hc => ?_)
          · rw [show (((t ++ [(a : Int)]).length : Nat) : Int) = (t.length : Int) + 1 by rw [List.length_append, List.length_singleton]; omega] at e2
            exact e2
          · rcases List.mem_append.mp hb2 with z | z
            · exact htw b z
            · rw [List.mem_singleton.mp z]; omega
          · rw [f2 136 (by decide), f1 136 (by decide), getD_snoc]
            by_cases e3 : j = t.length
            · rw [e3, zmu_s, if_neg (by omega), if_pos rfl]
            · simp at hj
              rw [zmu_j e3, if_pos (by omega)]; exact hut.1 j (by omega)
          · simp at hc
            rw [f2 c (by simp; omega), f1 c (by simp; omega), zmu_kf (by omega)]
            exact hf c (by simp; omega)
theorem c_mo_common {u v i : Int} (hI : iM M P R ws tx hs kp ls rf) (h : ∀ M1 L1, jM M1 (opCommon P R ws tx hs kp ls rf u v i).1 → aC M M1 → Q (opCommon P R ws tx hs kp ls rf u v i).2 (SH, M1, L1)) : zEv (d + 9) m_mo_common [zR 112, zI u, zI v, zI i] (SH, M, L) Q := by
  unfold opCommon at h
  refine b_mo_common ?_
  (first | refine g_mo_common_0 ?_ | refine g_mo_common_5 ?_ | refine g_mo_common_13 ?_ | refine g_mo_common_21 ?_ | refine g_mo_common_33 ?_ | refine g_mo_common_44 ?_ | refine g_mo_common_56 ?_ | refine g_mo_common_64 ?_ | refine g_mo_common_83 ?_ | refine g_mo_common_97 ?_ | refine g_mo_common_142 ?_ | refine g_mo_common_153 ?_ | refine g_mo_common_188 ?_)
  refine e_mo_isWord hI.s ?_
  (first | refine g_mo_common_0 ?_ | refine g_mo_common_5 ?_ | refine g_mo_common_13 ?_ | refine g_mo_common_21 ?_ | refine g_mo_common_33 ?_ | refine g_mo_common_44 ?_ | refine g_mo_common_56 ?_ | refine g_mo_common_64 ?_ | refine g_mo_common_83 ?_ | refine g_mo_common_97 ?_ | refine g_mo_common_142 ?_ | refine g_mo_common_153 ?_ | refine g_mo_common_188 ?_)
  by_cases ga : wd ws u
  · obtain ⟨u1, u2, u3, u4, u5⟩ := hI.w ga
    rw [if_pos ga, if_neg (by decide)]
    refine e_mo_isWord hI.s ?_
    (first | refine g_mo_common_0 ?_ | refine g_mo_common_5 ?_ | refine g_mo_common_13 ?_ | refine g_mo_common_21 ?_ | refine g_mo_common_33 ?_ | refine g_mo_common_44 ?_ | refine g_mo_common_56 ?_ | refine g_mo_common_64 ?_ | refine g_mo_common_83 ?_ | refine g_mo_common_97 ?_ | refine g_mo_common_142 ?_ | refine g_mo_common_153 ?_ | refine g_mo_common_188 ?_)
    by_cases gb : wd ws v
    · obtain ⟨v1, v2, v3, v4, v5⟩ := hI.w gb
      rw [if_pos ⟨ga, gb⟩] at h
      rw [if_pos gb, if_neg (by decide)]
      by_cases g2 : i < -1
      · rw [if_pos g2] at h ⊢
        (refine e_mo_noI (k := 4) hI (by omega) (fun M1 I f => ?_); (first | refine g_mo_common_0 ?_ | refine g_mo_common_5 ?_ | refine g_mo_common_13 ?_ | refine g_mo_common_21 ?_ | refine g_mo_common_33 ?_ | refine g_mo_common_44 ?_ | refine g_mo_common_56 ?_ | refine g_mo_common_64 ?_ | refine g_mo_common_83 ?_ | refine g_mo_common_97 ?_ | refine g_mo_common_142 ?_ | refine g_mo_common_153 ?_ | refine g_mo_common_188 ?_); exact h M1 L I f)
      · rw [if_neg g2] at h ⊢
        refine e_mo_load hI ga (Or.inl rfl) (fun M1 m1 I1 f1 => ?_)
        (first | refine g_mo_common_0 ?_ | refine g_mo_common_5 ?_ | refine g_mo_common_13 ?_ | refine g_mo_common_21 ?_ | refine g_mo_common_33 ?_ | refine g_mo_common_44 ?_ | refine g_mo_common_56 ?_ | refine g_mo_common_64 ?_ | refine g_mo_common_83 ?_ | refine g_mo_common_97 ?_ | refine g_mo_common_142 ?_ | refine g_mo_common_153 ?_ | refine g_mo_common_188 ?_)
        refine e_mo_load I1 gb (Or.inr rfl) (fun M2 m2 I2 f2 => ?_)
        (first | refine g_mo_common_0 ?_ | refine g_mo_common_5 ?_ | refine g_mo_common_13 ?_ | refine g_mo_common_21 ?_ | refine g_mo_common_33 ?_ | refine g_mo_common_44 ?_ | refine g_mo_common_56 ?_ | refine g_mo_common_64 ?_ | refine g_mo_common_83 ?_ | refine g_mo_common_97 ?_ | refine g_mo_common_142 ?_ | refine g_mo_common_153 ?_ | refine g_mo_common_188 ?_)
        refine mo_common_loop (d := d + 5) (c0 := cmn P (gw ws u).length (gw ws u) (gw ws v)) I2 (by omega) (fun M3 I3 f3 => h M3 L I3 (((f1.aC (by decide)).tr (f2.aC (by decide))).tr f3)) (7 * (gw ws u).length + 6) 0 (gw ws u).length [] (gw ws u) (gw ws v) M2 zN zN (by omega) (by omega) (by omega) (by simpa using u2) v2 u3 v3 (fun b hb => by cases hb) rfl (fun b hb => by omega) (f2.arr m1 (by decide)) m2 ⟨fun j hj => by simp at hj, by rw [zl_136]; simp⟩ cFr.rf
    · rw [if_neg (fun q => gb q.2)] at h
      rw [if_neg gb, if_pos rfl]
      (refine e_mo_noI (k := 1) hI (by omega) (fun M1 I f => ?_); (first | refine g_mo_common_0 ?_ | refine g_mo_common_5 ?_ | refine g_mo_common_13 ?_ | refine g_mo_common_21 ?_ | refine g_mo_common_33 ?_ | refine g_mo_common_44 ?_ | refine g_mo_common_56 ?_ | refine g_mo_common_64 ?_ | refine g_mo_common_83 ?_ | refine g_mo_common_97 ?_ | refine g_mo_common_142 ?_ | refine g_mo_common_153 ?_ | refine g_mo_common_188 ?_); exact h M1 L I f)
  · rw [if_neg (fun q => ga q.1)] at h
    rw [if_neg ga, if_pos rfl]
    (refine e_mo_noI (k := 1) hI (by omega) (fun M1 I f => ?_); (first | refine g_mo_common_0 ?_ | refine g_mo_common_5 ?_ | refine g_mo_common_13 ?_ | refine g_mo_common_21 ?_ | refine g_mo_common_33 ?_ | refine g_mo_common_44 ?_ | refine g_mo_common_56 ?_ | refine g_mo_common_64 ?_ | refine g_mo_common_83 ?_ | refine g_mo_common_97 ?_ | refine g_mo_common_142 ?_ | refine g_mo_common_153 ?_ | refine g_mo_common_188 ?_); exact h M1 L I f)
end ND
