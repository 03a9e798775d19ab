/-! the reference: what stands ahead, by its code; spread -/
section NG
variable {d : Nat} {M M' L : zM} {Q : Int → zW → Prop} {P R : Nat → Nat} {ws : List (List Int)} {tx : List Int} {hs : List zLw} {kp : zKp} {ls : Nat → Option (List Int)} {rf : Nat → Int}
theorem p2_14 {a n : Nat} (h : a < 2 ^ n) (hn : n ≤ 14) : a < 16384 := Nat.lt_of_lt_of_le h (show 2 ^ n ≤ 2 ^ 14 from Nat.pow_le_pow_right (by omega) hn)
theorem mo_ord1 {u : List Int} {p : Nat} {M0 : zM} (hl : lIs M0 112 P R) (ho : lOk P R) (hu : aIs M0 128 u) (hw : isW u) (h14 : u.length ≤ 14) (hp : p < u.length)
    (h : ∀ M', M' 133 p = (ahK P u p p : Int) → M' 134 p = (ahK P u p p : Int) → (∀ j, j ≠ p → M' 133 j = M0 133 j ∧ M' 134 j = M0 134 j) → cFr [133, 134] M0 M' → zEx (d + 2) m_mo_orders zb0 Q 76 ([zR 112, zI (u.length : Int), zI (p : Int), zI 0], [], SH, M', L)) :
    ∀ (n q : Nat) (Mk : zM), q + n = p → Mk 133 p = (ahK P u p q : Int) → (∀ j, j ≠ p → Mk 133 j = M0 133 j) → cFr [133] M0 Mk → zEx (d + 2) m_mo_orders zb0 Q 16 ([zR 112, zI (u.length : Int), zI (p : Int), zI (q : Int)], [], SH, Mk, L) := by
  intro n
  induction n with
  | zero =>
    intro q Mk hq h1 h2 hf
    have hq : q = p := by omega
    subst hq
    refine g_mo_orders_16 ?_
    rw [if_neg (by omega), zck_t (by omega), zck_t (by omega), Int.toNat_natCast, h1]
    refine h _ (by rw [zmu_k (by decide), h1]) zmu_s (fun j hj => ⟨by rw [zmu_kf (by decide), h2 j hj], by rw [zmu_j hj, hf 134 (by decide)]⟩) (fun a ha => ?_)
    simp at ha
    rw [zmu_kf ha.2]; exact hf a (by simpa using ha.1)
  | succ n ih =>
    intro q Mk hq h1 h2 hf
    have e := fun M' => ih (q + 1) M' (by omega)
    rw [ahK_s] at e
    have hah := p2_14 (ahK_lt (P := P) (u := u) (p := p) q) (by omega)
    have hp14 := p14 (a := q) (by omega)
    refine g_mo_orders_16 ?_
    simp (disch := omega) only [zck_t, if_pos, if_neg, if_true, if_false, zwr_id, Int.toNat_natCast]
    rw [hf 128 (by decide), hu.1 p hp, hu.1 q (by omega), h1]
    refine e_mo_passes_ (hf.law hl (by decide) (by decide)) ho (isW_at hw hp) (isW_at hw (by omega)) (g_mo_orders_44 ?_)
    simp (disch := omega) only [zck_t, if_pos, if_neg, if_true, if_false, zwr_id, Int.toNat_natCast, zshl_1, zor_nat]
    rw [show ((q : Int) + 1) = ((q + 1 : Nat) : Int) by omega]
    by_cases g : psL P (u.getD p 0) (u.getD q 0) = true
    · rw [if_pos g] at e
      rw [if_pos g, if_neg (by decide), show zor (ahK P u p q : Int) 0 = ((ahK P u p q ||| 0 : Nat) : Int) from zor_nat (b := 0) (by omega) (by omega), Nat.or_zero]
      exact e _ zmu_s (fun j hj => by rw [zmu_j hj]; exact h2 j hj) (fun a ha => by rw [zmu_kf (by simpa using ha)]; exact hf a ha)
    · rw [if_neg g] at e
      rw [if_neg g, if_pos rfl]
      exact e _ zmu_s (fun j hj => by rw [zmu_j hj]; exact h2 j hj) (fun a ha => by rw [zmu_kf (by simpa using ha)]; exact hf a ha)
theorem mo_ord2 {u : List Int} {p : Nat} {M0 : zM} (h14 : u.length ≤ 14) (hp : p < u.length) (hah : M0 133 p = (ahK P u p p : Int)) (hal : ∀ j, j < p → M0 134 j = (aL P u p j : Int))
    (h : ∀ M', M' 134 p = (alK (aL P u p) (ahK P u p p) p : Int) → (∀ j, j ≠ p → M' 134 j = M0 134 j) → cFr [134] M0 M' → zEx (d + 2) m_mo_orders zb0 Q 2 ([zR 112, zI (u.length : Int), zI ((p + 1 : Nat) : Int), zI (p : Int)], [], SH, M', L)) :
    ∀ (n q : Nat) (Mk : zM), q + n = p → Mk 134 p = (alK (aL P u p) (ahK P u p p) q : Int) → (∀ j, j ≠ p → Mk 134 j = M0 134 j) → cFr [134] M0 Mk → zEx (d + 2) m_mo_orders zb0 Q 76 ([zR 112, zI (u.length : Int), zI (p : Int), zI (q : Int)], [], SH, Mk, L) := by
  have ha14 := p2_14 (ahK_lt (P := P) (u := u) (p := p) p) (by omega)
  intro n
  induction n with
  | zero =>
    intro q Mk hq h1 h2 hf
    have hq : q = p := by omega
    subst hq
    refine g_mo_orders_76 ?_
    rw [if_neg (by omega), zwr_id (by omega) (by omega), show ((q : Int) + 1) = ((q + 1 : Nat) : Int) by omega]
    exact h Mk h1 h2 hf
  | succ n ih =>
    intro q Mk hq h1 h2 hf
    have e := fun M' => ih (q + 1) M' (by omega)
    rw [alK_s] at e
    have hq14 := p2_14 (aL_lt (P := P) (u := u) p q (by omega)) (by omega)
    have hk14 := p2_14 (alK_lt (al := aL P u p) (n := p) (ahK_lt (P := P) (u := u) (p := p) p) q (fun q hq => Nat.lt_of_lt_of_le (aL_lt p q (by omega)) (Nat.pow_le_pow_right (by omega) (by omega)))) (by omega)
    refine g_mo_orders_76 ?_
    have e133 : Mk 133 = M0 133 := hf 133 (by decide)
    rw [Int.toNat_natCast, Int.toNat_natCast, e133, hah, h1, h2 q (by omega), hal q (by omega)]
    simp (disch := omega) only [zck_t, if_pos, if_neg, if_true, if_false, zwr_id, Int.toNat_natCast, zbit_if, zor_nat]
    rw [show ((q : Int) + 1) = ((q + 1 : Nat) : Int) by omega]
    by_cases g : (ahK P u p p).testBit q = true
    · rw [if_pos g] at e
      rw [if_pos g]
      exact e _ zmu_s (fun j hj => by rw [zmu_j hj]; exact h2 j hj) (fun a ha => by rw [zmu_kf (by simpa using ha)]; exact hf a ha)
    · rw [if_neg g] at e
      rw [if_neg g, show zor (alK (aL P u p) (ahK P u p p) q : Int) 0 = ((alK (aL P u p) (ahK P u p p) q ||| 0 : Nat) : Int) from zor_nat (b := 0) (by omega) (by omega), Nat.or_zero]
      exact e _ zmu_s (fun j hj => by rw [zmu_j hj]; exact h2 j hj) (fun a ha => by rw [zmu_kf (by simpa using ha)]; exact hf a ha)
theorem mo_ord {u : List Int} {M0 : zM} (hl : lIs M0 112 P R) (ho : lOk P R) (hu : aIs M0 128 u) (hw : isW u) (h14 : u.length ≤ 14)
    (h : ∀ M', (∀ p, p < u.length → M' 133 p = (ahK P u p p : Int) ∧ M' 134 p = (aL P u (p + 1) p : Int)) → cFr [133, 134] M0 M' → Q 0 (SH, M', L)) :
    ∀ (n p : Nat) (Mk : zM) (v3 : zV), p + n = u.length → (∀ j, j < p → Mk 133 j = (ahK P u j j : Int) ∧ Mk 134 j = (aL P u (j + 1) j : Int)) → cFr [133, 134] M0 Mk → zEx (d + 2) m_mo_orders zb0 Q 2 ([zR 112, zI (u.length : Int), zI (p : Int), v3], [], SH, Mk, L) := by
  intro n
  induction n with
  | zero =>
    intro p Mk v3 hp h1 hf
    refine g_mo_orders_2 ?_
    rw [if_neg (by omega)]
    exact h Mk (fun j hj => h1 j (by omega)) hf
  | succ n ih =>
    intro p Mk v3 hp h1 hf
    refine g_mo_orders_2 ?_
    simp (disch := omega) only [zck_t, if_pos, if_neg, if_true, if_false, zwr_id, Int.toNat_natCast]
    have f0 : cFr [133, 134] M0 (zmu Mk 133 p 0) := fun a ha => by
      rw [zmu_kf (fun z => ha (by rw [z]; simp))]; exact hf a ha
    refine mo_ord1 (P := P) (R := R) (M0 := zmu Mk 133 p 0) (f0.law hl (by decide) (by decide)) ho (f0.arr hu (by decide)) hw h14 (by omega) (fun M1 a1 a2 a3 a4 => ?_) p 0 _ (by omega) zmu_s (fun _ _ => rfl) cFr.rf
    have hal : ∀ j, j < p → M1 134 j = (aL P u p j : Int) := fun j hj => by
      rw [(a3 j (by omega)).2, zmu_kf (by decide), (h1 j hj).2, aL_at p hj, aL_at (j + 1) (by omega)]
    refine mo_ord2 h14 (by omega) a1 hal (fun M2 b1 b2 b3 => ?_) p 0 M1 (by omega) a2 (fun _ _ => rfl) cFr.rf
    refine ih (p + 1) M2 _ (by omega) (fun j hj => ?_) (f0.tr (a4.tr (b3.up (by decide))))
    by_cases e : j = p
    · subst e
      refine ⟨by rw [b3 133 (by decide), a1], ?_⟩
      rw [b1, aL_at (j + 1) (by omega)]
    · refine ⟨?_, ?_⟩
      · rw [b3 133 (by decide), (a3 j e).1, zmu_j e]; exact (h1 j (by omega)).1
      · rw [b2 j e, (a3 j e).2, zmu_kf (by decide)]; exact (h1 j (by omega)).2
theorem e_mo_orders {u : List Int} (hl : lIs M 112 P R) (ho : lOk P R) (hu : aIs M 128 u) (hw : isW u) (h14 : u.length ≤ 14)
    (h : ∀ M', (∀ p, p < u.length → M' 133 p = (ahK P u p p : Int) ∧ M' 134 p = (aL P u (p + 1) p : Int)) → cFr [133, 134] M M' → Q 0 (SH, M', L)) : zEv (d + 2) m_mo_orders [zR 112, zI (u.length : Int)] (SH, M, L) Q :=
  b_mo_orders (g_mo_orders_0 (mo_ord hl ho hu hw h14 h u.length 0 M zN (by omega) (fun j hj => by omega) cFr.rf))
theorem mo_spr0 {w a n : Int} {u : List Int} {p : Nat} {x7 : Int} (h14 : u.length ≤ 14) (hp : p < u.length) (hal : M 134 p = (aL P u (p + 1) p : Int)) (h : Q (cnt (fun q => (aL P u (p + 1) p).testBit q) u.length : Int) (SH, M, L)) :
    ∀ (m q : Nat), q + m = u.length → zEx (d + 2) m_mo_spread zb0 Q 152 ([zR 112, zI w, zI a, zI n, zI 0, zI (u.length : Int), zI (p : Int), zI x7, zI (cnt (fun q => (aL P u (p + 1) p).testBit q) q : Int), zI (q : Int)], [], SH, M, L) := by
  have hlt := p2_14 (aL_lt (P := P) (u := u) (p + 1) p (by omega)) (by omega)
  intro m
  induction m with
  | zero =>
    intro q hq
    have hq : q = u.length := by omega
    subst hq
    refine g_mo_spread_152 ?_
    rw [if_neg (by omega)]
    exact h
  | succ m ih =>
    intro q hq
    have e := ih (q + 1) (by omega)
    have hc := cnt_le (fun q => (aL P u (p + 1) p).testBit q) q
    refine g_mo_spread_152 ?_
    rw [if_pos (by omega), if_pos rfl, Int.toNat_natCast, hal, zck_t (by omega), zbit_nat (by omega) (by omega)]
    cases g : (aL P u (p + 1) p).testBit q
    · rw [cnt_n (p := fun q => (aL P u (p + 1) p).testBit q) g] at e
      simp only [Bool.false_eq_true, if_false, Int.add_zero]
      simp (disch := omega) only [zck_t, if_pos, if_neg, if_true, if_false, zwr_id, Int.toNat_natCast]
      rw [show ((q : Int) + 1) = ((q + 1 : Nat) : Int) by omega]
      exact e
    · rw [cnt_s (p := fun q => (aL P u (p + 1) p).testBit q) g] at e
      simp only [if_true]
      simp (disch := omega) only [zck_t, if_pos, if_neg, if_true, if_false, zwr_id, Int.toNat_natCast]
      rw [show ((q : Int) + 1) = ((q + 1 : Nat) : Int) by omega]
      exact e
theorem mo_spr1 {w a n x : Int} {u : List Int} {p : Nat} {x7 : Int} (hx : x ≠ 0) (h14 : u.length ≤ 14) (hp : p < u.length) (hal : ∀ q, q < u.length → M 134 q = (aL P u (q + 1) q : Int)) (h : Q ((u.length : Int) - 1 - (cnt (fun q => (aL P u (q + 1) q).testBit p) u.length : Int)) (SH, M, L)) :
    ∀ (m q : Nat), q + m = u.length → zEx (d + 2) m_mo_spread zb0 Q 152 ([zR 112, zI w, zI a, zI n, zI x, zI (u.length : Int), zI (p : Int), zI x7, zI ((u.length : Int) - 1 - (cnt (fun q => (aL P u (q + 1) q).testBit p) q : Int)), zI (q : Int)], [], SH, M, L) := by
  intro m
  induction m with
  | zero =>
    intro q hq
    have hq : q = u.length := by omega
    subst hq
    refine g_mo_spread_152 ?_
    rw [if_neg (by omega)]
    exact h
  | succ m ih =>
    intro q hq
    have e := ih (q + 1) (by omega)
    have hlt := p2_14 (aL_lt (P := P) (u := u) (q + 1) q (by omega)) (by omega)
    have hc := cnt_le (fun q => (aL P u (q + 1) q).testBit p) q
    refine g_mo_spread_152 ?_
    rw [if_pos (by omega), if_neg hx, Int.toNat_natCast, hal q (by omega), zck_t (by omega), zbit_nat (by omega) (by omega)]
    cases g : (aL P u (q + 1) q).testBit p
    · rw [cnt_n (p := fun q => (aL P u (q + 1) q).testBit p) g] at e
      simp only [Bool.false_eq_true, if_false]
      rw [show zwr (-0) = 0 from rfl, Int.add_zero]
      simp (disch := omega) only [zck_t, if_pos, if_neg, if_true, if_false, zwr_id, Int.toNat_natCast]
      rw [show ((q : Int) + 1) = ((q + 1 : Nat) : Int) by omega]
      exact e
    · rw [cnt_s (p := fun q => (aL P u (q + 1) q).testBit p) g] at e
      simp only [if_true]
      simp (disch := omega) only [zck_t, if_pos, if_neg, if_true, if_false, zwr_id, Int.toNat_natCast]
      rw [show ((q : Int) + 1) = ((q + 1 : Nat) : Int) by omega, show (u.length : Int) - 1 - (cnt (fun q => (aL P u (q + 1) q).testBit p) q : Int) + -1 = (u.length : Int) - 1 - ((cnt (fun q => (aL P u (q + 1) q).testBit p) q + 1 : Nat) : Int) by omega]
      exact e
theorem pot_cons {x a : Int} {u : List Int} {n k : Int} : pot x (a :: u) n k = if a = x then (if n = 0 then k else pot x u (n - 1) (k + 1)) else pot x u n (k + 1) := rfl
theorem mo_spread_find {w a n x : Int} {u : List Int} (hn : 0 ≤ n) (hu : aIs M 128 u) (h14 : u.length ≤ 14)
    (h9 : pot a u n 0 = -9 → Q (-9) (SH, M, L)) (h1 : ∀ (p : Nat) (x7 : Int), pot a u n 0 = (p : Int) → p < u.length → (if x = 0 then zEx (d + 2) m_mo_spread zb0 Q 152 ([zR 112, zI w, zI a, zI n, zI x, zI (u.length : Int), zI (p : Int), zI x7, zI 0, zI 0], [], SH, M, L) else zEx (d + 2) m_mo_spread zb0 Q 152 ([zR 112, zI w, zI a, zI n, zI x, zI (u.length : Int), zI (p : Int), zI x7, zI (zwr ((u.length : Int) - 1)), zI 0], [], SH, M, L))) :
    ∀ (v : List Int) (k t : Nat), u.drop k = v → k ≤ u.length → t ≤ k → (t : Int) ≤ n → pot a v (n - t) k = pot a u n 0 → zEx (d + 2) m_mo_spread zb0 Q 73 ([zR 112, zI w, zI a, zI n, zI x, zI (u.length : Int), zI (k : Int), zI (t : Int), zN, zN], [], SH, M, L) := by
  intro v
  induction v with
  | nil =>
    intro k t hd hk ht htn he
    have : u.length ≤ k := by have := congrArg List.length hd; simp at this; omega
    refine g_mo_spread_73 ?_
    rw [if_neg (by omega), if_pos (by omega)]
    exact h9 he.symm
  | cons c v ih =>
    intro k t hd hk ht htn he
    obtain ⟨q1, q2, q3⟩ := drop_cons hd
    refine g_mo_spread_73 ?_
    simp (disch := omega) only [zck_t, if_pos, if_neg, if_true, if_false, zwr_id, Int.toNat_natCast]
    rw [hu.1 k (by omega), q1, show ((k : Int) + 1) = ((k + 1 : Nat) : Int) by omega]
    rw [pot_cons] at he
    by_cases g : c = a
    · rw [if_pos g] at he
      simp (disch := omega) only [zck_t, if_pos, if_neg, if_true, if_false, zwr_id, Int.toNat_natCast]
      by_cases g2 : (t : Int) < n
      · rw [if_neg (by omega)] at he
        rw [if_pos g2, show ((t : Int) + 1) = ((t + 1 : Nat) : Int) by omega]
        refine ih (k + 1) (t + 1) q2 (by omega) (by omega) (by omega) ?_
        rw [← he]
        congr 1
        omega
      · rw [if_pos (by omega)] at he
        rw [if_neg g2]
        have := h1 k (t : Int) he.symm (by omega)
        rw [zwr_id (by omega) (by omega)] at this
        exact this
    · rw [if_neg g] at he
      simp (disch := omega) only [zck_t, if_pos, if_neg, if_true, if_false, zwr_id, Int.toNat_natCast]
      rw [Int.add_zero]
      exact ih (k + 1) t q2 (by omega) (by omega) htn he
theorem c_mo_spread {w a n x : Int} (hI : iM M P R ws tx hs kp ls rf) (h : ∀ M1 L1, jM M1 (opSpread P R ws tx hs kp ls rf w a n x).1 → aC M M1 → Q (opSpread P R ws tx hs kp ls rf w a n x).2 (SH, M1, L1)) : zEv (d + 9) m_mo_spread [zR 112, zI w, zI a, zI n, zI x] (SH, M, L) Q := by
  unfold opSpread at h
  refine b_mo_spread ?_
  (first | refine g_mo_spread_0 ?_ | refine g_mo_spread_5 ?_ | refine g_mo_spread_12 ?_ | refine g_mo_spread_20 ?_ | refine g_mo_spread_31 ?_ | refine g_mo_spread_39 ?_ | refine g_mo_spread_48 ?_ | refine g_mo_spread_59 ?_ | refine g_mo_spread_67 ?_ | refine g_mo_spread_73 ?_ | refine g_mo_spread_152 ?_)
  refine e_mo_isWord hI.s ?_
  (first | refine g_mo_spread_0 ?_ | refine g_mo_spread_5 ?_ | refine g_mo_spread_12 ?_ | refine g_mo_spread_20 ?_ | refine g_mo_spread_31 ?_ | refine g_mo_spread_39 ?_ | refine g_mo_spread_48 ?_ | refine g_mo_spread_59 ?_ | refine g_mo_spread_67 ?_ | refine g_mo_spread_73 ?_ | refine g_mo_spread_152 ?_)
  by_cases g : wd ws w
  · obtain ⟨w1, w2, w3, w4, w5⟩ := hI.w g
    rw [if_pos g, if_neg (by decide)]
    refine e_mo_isLetter ?_
    (first | refine g_mo_spread_0 ?_ | refine g_mo_spread_5 ?_ | refine g_mo_spread_12 ?_ | refine g_mo_spread_20 ?_ | refine g_mo_spread_31 ?_ | refine g_mo_spread_39 ?_ | refine g_mo_spread_48 ?_ | refine g_mo_spread_59 ?_ | refine g_mo_spread_67 ?_ | refine g_mo_spread_73 ?_ | refine g_mo_spread_152 ?_)
    by_cases ga : lt6 a
    · rw [if_pos ⟨g, ga⟩] at h
      rw [if_pos ga, if_neg (by decide)]
      by_cases g2 : n < 0
      · rw [if_pos g2] at h ⊢
        (refine e_mo_noI (k := 4) hI (by omega) (fun M1 I f => ?_); (first | refine g_mo_spread_0 ?_ | refine g_mo_spread_5 ?_ | refine g_mo_spread_12 ?_ | refine g_mo_spread_20 ?_ | refine g_mo_spread_31 ?_ | refine g_mo_spread_39 ?_ | refine g_mo_spread_48 ?_ | refine g_mo_spread_59 ?_ | refine g_mo_spread_67 ?_ | refine g_mo_spread_73 ?_ | refine g_mo_spread_152 ?_); exact h M1 L I f)
      · rw [if_neg g2] at h ⊢
        refine e_mo_isIn ?_
        (first | refine g_mo_spread_0 ?_ | refine g_mo_spread_5 ?_ | refine g_mo_spread_12 ?_ | refine g_mo_spread_20 ?_ | refine g_mo_spread_31 ?_ | refine g_mo_spread_39 ?_ | refine g_mo_spread_48 ?_ | refine g_mo_spread_59 ?_ | refine g_mo_spread_67 ?_ | refine g_mo_spread_73 ?_ | refine g_mo_spread_152 ?_)
        by_cases g3 : x = 0 ∨ x = 1
        · rw [if_pos g3] at h
          simp (disch := omega) only [zck_t, if_pos, if_neg, if_true, if_false, zwr_id, Int.toNat_natCast]
          refine e_mo_load hI g (Or.inl rfl) (fun M1 m1 I1 f1 => ?_)
          (first | refine g_mo_spread_0 ?_ | refine g_mo_spread_5 ?_ | refine g_mo_spread_12 ?_ | refine g_mo_spread_20 ?_ | refine g_mo_spread_31 ?_ | refine g_mo_spread_39 ?_ | refine g_mo_spread_48 ?_ | refine g_mo_spread_59 ?_ | refine g_mo_spread_67 ?_ | refine g_mo_spread_73 ?_ | refine g_mo_spread_152 ?_)
          refine e_mo_orders I1.l hI.lo m1 w3 w2 (fun M2 m2 f2 => ?_)
          (first | refine g_mo_spread_0 ?_ | refine g_mo_spread_5 ?_ | refine g_mo_spread_12 ?_ | refine g_mo_spread_20 ?_ | refine g_mo_spread_31 ?_ | refine g_mo_spread_39 ?_ | refine g_mo_spread_48 ?_ | refine g_mo_spread_59 ?_ | refine g_mo_spread_67 ?_ | refine g_mo_spread_73 ?_ | refine g_mo_spread_152 ?_)
          have J := I1.cx f2 (by decide)
          have e := h M2 L J.1 ((f1.aC (by decide)).tr J.2)
          have e : Q (sprd P (gw ws w) a n x) (SH, M2, L) := e
          unfold sprd pOf at e
          refine mo_spread_find (d := d + 7) (by omega) (f2.arr m1 (by decide)) w2 (fun hp => ?_) (fun p x7 hp hpl => ?_) (gw ws w) 0 0 rfl (by omega) (by omega) (by omega) (by simp)
          · rw [hp, if_pos (by decide)] at e
            exact e
          · rw [hp, if_neg (by omega), Int.toNat_natCast] at e
            by_cases gx : x = 0
            · rw [if_pos gx, tied_back hI.lo w3 hpl] at e
              rw [if_pos gx, gx]
              exact mo_spr0 (d := d + 7) w2 hpl (m2 p hpl).2 e (gw ws w).length 0 (by omega)
            · rw [if_neg gx, tied_on hI.lo w3 hpl] at e
              rw [if_neg gx, zwr_id (by omega) (by omega)]
              have := mo_spr1 (d := d + 7) (Q := Q) (L := L) (M := M2) (w := w) (a := a) (n := n) (x7 := x7) gx w2 hpl (fun q hq => (m2 q hq).2) e (gw ws w).length 0 (by omega)
              simpa [cnt] using this
        · rw [if_neg g3] at h
          simp (disch := omega) only [zck_t, if_pos, if_neg, if_true, if_false, zwr_id, Int.toNat_natCast]
          (refine e_mo_noI (k := 2) hI (by omega) (fun M1 I f => ?_); (first | refine g_mo_spread_0 ?_ | refine g_mo_spread_5 ?_ | refine g_mo_spread_12 ?_ | refine g_mo_spread_20 ?_ | refine g_mo_spread_31 ?_ | refine g_mo_spread_39 ?_ | refine g_mo_spread_48 ?_ | refine g_mo_spread_59 ?_ | refine g_mo_spread_67 ?_ | refine g_mo_spread_73 ?_ | refine g_mo_spread_152 ?_); exact h M1 L I f)
    · rw [if_neg (fun q => ga q.2)] at h
      rw [if_neg ga, if_pos rfl]
      (refine e_mo_noI (k := 1) hI (by omega) (fun M1 I f => ?_); (first | refine g_mo_spread_0 ?_ | refine g_mo_spread_5 ?_ | refine g_mo_spread_12 ?_ | refine g_mo_spread_20 ?_ | refine g_mo_spread_31 ?_ | refine g_mo_spread_39 ?_ | refine g_mo_spread_48 ?_ | refine g_mo_spread_59 ?_ | refine g_mo_spread_67 ?_ | refine g_mo_spread_73 ?_ | refine g_mo_spread_152 ?_); exact h M1 L I f)
  · rw [if_neg (fun q => g q.1)] at h
    rw [if_neg g, if_pos rfl]
    (refine e_mo_noI (k := 1) hI (by omega) (fun M1 I f => ?_); (first | refine g_mo_spread_0 ?_ | refine g_mo_spread_5 ?_ | refine g_mo_spread_12 ?_ | refine g_mo_spread_20 ?_ | refine g_mo_spread_31 ?_ | refine g_mo_spread_39 ?_ | refine g_mo_spread_48 ?_ | refine g_mo_spread_59 ?_ | refine g_mo_spread_67 ?_ | refine g_mo_spread_73 ?_ | refine g_mo_spread_152 ?_); exact h M1 L I f)
end NG
