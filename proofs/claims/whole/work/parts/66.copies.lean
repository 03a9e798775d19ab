/-! copies, by the class: from point to point -/
section TG
variable {d : Nat} {M M' L : zM} {Q : Int → zW → Prop} {P R : Nat → Nat} {ws : List (List Int)} {tx : List Int} {hs : List zLw} {kp : zKp} {ls : Nat → Option (List Int)} {rf : Nat → Int} {u : List Int} {r p a : Nat}
def opn (u : List Int) (a p : Nat) : Nat := lp u a u.length ^^^ (lp u a u.length &&& tT u p)
theorem opn_bit {i : Nat} : (opn u a p).testBit i = true ↔ i < u.length ∧ le u i = a ∧ ld u a p ≤ lc u a i := by
  unfold opn lp
  rw [anx_bit, bs_bit, tT_bit]
  by_cases g : i < u.length
  · by_cases e : le u i = a
    · rw [e]; simp [g]
    · simp [e]
  · simp [g]
theorem opn_lt (h14 : u.length ≤ 14) : opn u a p < 16384 := by
  have h1 : lp u a u.length < 2 ^ 14 := p2_14 (show lp u a u.length < 2 ^ u.length from bs_lt _) h14
  exact Nat.xor_lt_two_pow h1 (Nat.lt_of_le_of_lt Nat.and_le_left h1)
theorem opn_ntz (h14 : u.length ≤ 14) : (∃ q, q < u.length ∧ le u q = a ∧ lc u a q = ld u a p ∧ ntz (opn u a p) = q) ∨ (ln u a ≤ ld u a p ∧ ntz (opn u a p) = 32) := by
  by_cases g : ld u a p < ln u a
  · obtain ⟨q, h1, h2, h3⟩ := lc_ex g
    have hq : (opn u a p).testBit q = true := opn_bit.mpr ⟨h1, h2, by omega⟩
    have h0 : opn u a p ≠ 0 := fun z => by rw [z, Nat.zero_testBit] at hq; cases hq
    obtain ⟨z1, z2, z3⟩ := ntz_is (opn_lt h14) h0
    obtain ⟨y1, y2, y3⟩ := opn_bit.mp z2
    refine Or.inl ⟨q, h1, h2, h3, ?_⟩
    rcases Nat.lt_trichotomy (ntz (opn u a p)) q with z | z | z
    · have := lc_up z y2; omega
    · exact z
    · rw [z3 q z] at hq; cases hq
  · refine Or.inr ⟨by omega, ?_⟩
    have : opn u a p = 0 := by
      apply Nat.eq_of_testBit_eq
      intro i
      rw [Nat.zero_testBit]
      cases q : (opn u a p).testBit i
      · rfl
      · obtain ⟨y1, y2, y3⟩ := opn_bit.mp q
        have := lc_up y1 y2
        have : lc u a u.length = ln u a := rfl
        omega
    rw [this]; rfl
/-- the table when the points below p are through, and p up to a -/
def tI (P : Nat → Nat) (u : List Int) (p a : Nat) (M L : zM) : Prop := ∀ p', p' < spn (ln u) 6 → L 90 p' = (vC P u p a p' : Int) ∧ (0 < vC P u p a p' → M 91 p' = (tT u p' : Int))
theorem ta_go {M0 : zM} (hw : isW u) (h14 : u.length ≤ 14) (hp : p < spn (ln u) 6) (hpos : 0 < wW P u (tT u p)) (ha : ∀ a, a < 6 → M0 92 a = (spn (ln u) a : Int) ∧ M0 93 a = (lp u a u.length : Int)) (hb : ∀ j, j < u.length → M0 94 j = (ahK P u j j : Int))
    (h : ∀ M' L', tI P u (p + 1) 0 M' L' → cFr [91] M0 M' → Q 0 (SH, M', L')) :
    ∀ (n a : Nat) (Mk Lk : zM) (v4 v5 v6 : zV), a + n = 6 → tI P u p a Mk Lk → cFr [91] M0 Mk → zEx (d + 2) m_ta_goOn zb0 Q 2 ([zR 89, zI (p : Int), zI (spn (ln u) 6 : Int), zI (a : Int), v4, v5, v6], [], SH, Mk, Lk) := by
  have h1296 := lsp_1296 hw h14
  intro n
  induction n with
  | zero =>
    intro a Mk Lk v4 v5 v6 hn h1 hf
    have hn : a = 6 := by omega
    subst hn
    refine g_ta_goOn_2 ?_
    rw [if_neg (by omega)]
    exact h Mk Lk (fun p' hp' => by rw [vC_next]; exact h1 p' hp') hf
  | succ n ih =>
    intro a Mk Lk v4 v5 v6 hn h1 hf
    have l14 := p2_14 (show lp u a u.length < 2 ^ u.length from bs_lt _) h14
    have t14 := p2_14 (tT_lt (u := u) (p := p)) h14
    have full : vC P u p a p = wW P u (tT u p) := vC_full hw hp (Nat.le_refl _)
    have e91 : Mk 91 p = (tT u p : Int) := (h1 p hp).2 (by omega)
    have e90 : Lk 90 p = (wW P u (tT u p) : Int) := by rw [(h1 p hp).1, full]
    have e92 : Mk 92 a = (spn (ln u) a : Int) := by rw [hf 92 (by decide)]; exact (ha a (by omega)).1
    have e93 : Mk 93 a = (lp u a u.length : Int) := by rw [hf 93 (by decide)]; exact (ha a (by omega)).2
    have ez : zand (lp u a u.length : Int) (zxor (tT u p : Int) (-1)) = (opn u a p : Int) := zandn_nat (by omega) (by omega)
    refine g_ta_goOn_2 ?_
    rw [if_pos (by omega), zck_t (by omega), zck_t (by omega), Int.toNat_natCast, Int.toNat_natCast, e93, e91, ez]
    refine e_jd_ntz (opn_lt (u := u) (a := a) (p := p) h14) (g_ta_goOn_30 ?_)
    have stay : ¬ okA P u a p → ∀ v4 v5 v6, zEx (d + 2) m_ta_goOn zb0 Q 2 ([zR 89, zI (p : Int), zI (spn (ln u) 6 : Int), zI ((a + 1 : Nat) : Int), v4, v5, v6], [], SH, Mk, Lk) := fun z v4 v5 v6 => ih (a + 1) Mk Lk v4 v5 v6 (by omega) (fun p' hp' => by rw [vC_other (fun y => z y.1)]; exact h1 p' hp') hf
    rcases opn_ntz (u := u) (a := a) (p := p) h14 with ⟨q, q1, q2, q3, q4⟩ | ⟨q1, q2⟩
    · have a14 := p2_14 (ahK_lt (P := P) (u := u) (p := q) q) (by omega)
      have p14 := p14 (a := q) (by omega)
      rw [q4, if_pos (by omega), zck_t (by omega), zck_t (by omega), Int.toNat_natCast, Int.toNat_natCast, hf 94 (by decide), hb q q1, e91, zandn_nat (by omega) (by omega), zwr_id (x := (a : Int) + 1) (by omega) (by omega), show ((a : Int) + 1) = ((a + 1 : Nat) : Int) by omega]
      by_cases gs : sub0 (ahK P u q q) (tT u p)
      · have gs' : ahK P u q q ^^^ (ahK P u q q &&& tT u p) = 0 := gs
        have hok : okA P u a p := ⟨q, q1, q2, q3, gs⟩
        have hlt := dg_lt (okA_n hok) (show a < 6 by omega) hp
        rw [if_pos (by rw [gs']; rfl), zck_t (by omega), Int.toNat_natCast, e92, zwr_id (by omega) (by omega), show (p : Int) + (spn (ln u) a : Int) = ((p + spn (ln u) a : Nat) : Int) by omega, if_pos (by omega)]
        have hle := vC_le (P := P) (u := u) (p := p) (j := a + 1) hw hlt
        have hbg := wW_big (P := P) h14 (p2_14 (tT_lt (u := u) (p := p + spn (ln u) a)) h14)
        have hput := vC_put (show a < 6 by omega) hok
        have hT := tT_up (okA_n hok) q1 q2 q3
        simp (disch := omega) only [zck_t, Int.toNat_natCast, zshl_1, zor_nat, e91, e90]
        rw [(h1 _ hlt).1, zwl_id (by omega) (by omega)]
        refine ih (a + 1) _ _ _ _ _ (by omega) (fun p' hp' => ?_) (fun c hc => ?_)
        · by_cases e : p' = p + spn (ln u) a
          · rw [e, zmu_s, zmu_s, hput, hT]
            exact ⟨by omega, fun _ => rfl⟩
          · rw [zmu_j e, zmu_j e, vC_other (fun y => e y.2)]
            exact h1 p' hp'
        · rw [zmu_kf (by simpa using hc)]; exact hf c hc
      · have gs' : ¬ ahK P u q q ^^^ (ahK P u q q &&& tT u p) = 0 := gs
        rw [if_neg (by omega)]
        refine stay (fun z => ?_) _ _ _
        obtain ⟨q', k1, k2, k3, k4⟩ := z
        have : q' = q := lc_inj k2 q2 (by omega)
        subst this
        exact gs k4
    · rw [q2, if_neg (by decide), zwr_id (by omega) (by omega), show ((a : Int) + 1) = ((a + 1 : Nat) : Int) by omega]
      exact stay (fun z => by have := okA_n z; omega) _ _ _
theorem ta_al1 {x3 : Nat} (hr : zRow r) (hx : x3 ≤ 1296) (h : ∀ L', (∀ i, i < x3 → L' 90 i = 0) → zEx (d + 5) m_ta_countAlike zb0 Q 72 ([zR 89, zR r, zR 1, zI (x3 : Int), zI 0], [], SH, zmu M 91 0 0, zmu L' 90 0 1)) :
    ∀ (n i : Nat) (Lk : zM), i + n = x3 → (∀ j, j < i → Lk 90 j = 0) → zEx (d + 5) m_ta_countAlike zb0 Q 35 ([zR 89, zR r, zR 1, zI (x3 : Int), zI (i : Int)], [], SH, M, Lk) := by
  intro n
  induction n with
  | zero =>
    intro i Lk hi h1
    refine g_ta_countAlike_35 hr zLaw_1 ?_
    rw [if_neg (by omega)]
    exact h Lk (fun j hj => h1 j (by omega))
  | succ n ih =>
    intro i Lk hi h1
    refine g_ta_countAlike_35 hr zLaw_1 ?_
    simp (disch := omega) only [zck_t, if_pos, if_neg, if_true, if_false, zwr_id, Int.toNat_natCast]
    rw [show ((i : Int) + 1) = ((i + 1 : Nat) : Int) by omega]
    refine ih (i + 1) _ (by omega) (fun j hj => ?_)
    by_cases e : j = i
    · rw [e, zmu_s]
    · rw [zmu_j e]; exact h1 j (by omega)
theorem ta_al2 {M0 : zM} (hr : zRow r) (hw : isW u) (h14 : u.length ≤ 14) (ha : ∀ a, a < 6 → M0 92 a = (spn (ln u) a : Int) ∧ M0 93 a = (lp u a u.length : Int)) (hb : ∀ j, j < u.length → M0 94 j = (ahK P u j j : Int))
    (h : ∀ M' L', cFr [91] M0 M' → Q (copN P u : Int) (SH, M', L')) :
    ∀ (n p : Nat) (Mk Lk : zM), p + n = spn (ln u) 6 → tI P u p 0 Mk Lk → cFr [91] M0 Mk → zEx (d + 5) m_ta_countAlike zb0 Q 72 ([zR 89, zR r, zR 1, zI (spn (ln u) 6 : Int), zI (p : Int)], [], SH, Mk, Lk) := by
  have h1296 := lsp_1296 hw h14
  have h0 := spn_pos (N := ln u) 6
  intro n
  induction n with
  | zero =>
    intro p Mk Lk hn h1 hf
    refine g_ta_countAlike_72 hr zLaw_1 ?_
    rw [if_neg (by omega), zwr_id (by omega) (by omega), zck_t (by omega), show ((spn (ln u) 6 : Int) - 1).toNat = spn (ln u) 6 - 1 by omega, (h1 _ (by omega)).1, vC_full hw (by omega) (by omega), tT_top hw]
    exact h Mk Lk hf
  | succ n ih =>
    intro p Mk Lk hn h1 hf
    refine g_ta_countAlike_72 hr zLaw_1 ?_
    rw [if_pos (by omega), zck_t (by omega), Int.toNat_natCast, (h1 p (by omega)).1, vC_full hw (by omega) (Nat.le_refl _)]
    by_cases g : 0 < wW P u (tT u p)
    · rw [if_pos (zcmp_pos.mpr (by omega))]
      refine b_ta_goOn (g_ta_goOn_0 (ta_go (d := d + 2) (M0 := Mk) hw h14 (by omega) g (fun a ha' => ?_) (fun j hj => ?_) (fun M1 L1 i1 f1 => g_ta_countAlike_97 hr zLaw_1 ?_) 6 0 Mk Lk _ _ _ (by omega) h1 cFr.rf))
      · rw [hf 92 (by decide), hf 93 (by decide)]; exact ha a ha'
      · rw [hf 94 (by decide)]; exact hb j hj
      · rw [zwr_id (by omega) (by omega), show ((p : Int) + 1) = ((p + 1 : Nat) : Int) by omega]
        exact ih (p + 1) M1 L1 (by omega) i1 (hf.tr f1)
    · rw [if_neg (fun z => by have := zcmp_pos.mp z; omega)]
      refine g_ta_countAlike_97 hr zLaw_1 ?_
      rw [zwr_id (by omega) (by omega), show ((p : Int) + 1) = ((p + 1 : Nat) : Int) by omega]
      exact ih (p + 1) Mk Lk (by omega) (fun p' hp' => by rw [vC_skip (j := 0) (by omega)]; exact h1 p' hp') hf
theorem e_ta_countAlike (hr : zRow r) (hr9 : r + 1 < 64) (hu : rIs M r u) (hl : lIs M 1 P R) (ho : lOk P R) (hw : isW u) (h14 : u.length ≤ 14)
    (h : ∀ M' L', cFr [91, 92, 93, 94] M M' → Q (copN P u : Int) (SH, M', L')) : zEv (d + 5) m_ta_countAlike [zR 89, zR r, zR 1] (SH, M, L) Q := by
  have h1296 := lsp_1296 hw h14
  have h0 := spn_pos (N := ln u) 6
  refine b_ta_countAlike (g_ta_countAlike_0 hr zLaw_1 (e_ro_size hr hu (g_ta_countAlike_4 hr zLaw_1 ?_)))
  rw [if_neg (by omega)]
  refine e_ta_prepare hr hr9 hu hl ho hw h14 (fun M1 a1 b1 f1 => g_ta_countAlike_17 hr zLaw_1 ?_)
  rw [if_neg (by omega), if_neg (by omega)]
  refine ta_al1 hr h1296 (fun L1 c1 => ?_) (spn (ln u) 6) 0 L (by omega) (fun j hj => by omega)
  refine ta_al2 (M0 := zmu M1 91 0 0) hr hw h14 (fun a ha => ?_) (fun j hj => ?_) (fun M2 L2 f2 => h M2 L2 (fun c hc => ?_)) (spn (ln u) 6) 0 _ _ (by omega) (fun p' hp' => ?_) cFr.rf
  · rw [zmu_k (by decide), zmu_k (by decide)]; exact a1 a ha
  · rw [zmu_k (by decide)]; exact b1 j hj
  · rw [f2 c (fun z => hc (by simp at z; simp [z])), zmu_kf (fun z => hc (by rw [z]; decide))]
    exact f1 c (fun z => hc (by simp at z ⊢; omega))
  · rw [vC_0]
    by_cases e : p' = 0
    · rw [e, zmu_s, zmu_s, if_pos rfl, (tT_0 h0).mpr rfl]
      exact ⟨rfl, fun _ => rfl⟩
    · rw [zmu_j e, if_neg e, c1 p' hp']
      exact ⟨rfl, fun z => by omega⟩
theorem c_lt_copies {w : Int} (hI : iC M P R ws tx hs kp ls rf) (h : ∀ M1 L1, jC M1 (opCopies P R ws tx hs kp ls rf w).1 → aM M M1 → Q (opCopies P R ws tx hs kp ls rf w).2 (SH, M1, L1)) : zEv (d + 9) m_lt_copies [zR 0, zI w] (SH, M, L) Q := by
  unfold opCopies at h
  refine b_lt_copies (g_lt_copies_0 (e_lt_noWord hI.s (g_lt_copies_5 ?_)))
  by_cases g : wd ws w
  · obtain ⟨za, ru, hw, h14, h64⟩ := hI.w g
    rw [if_pos g] at h
    rw [if_pos g, if_pos rfl]
    refine e_sh_rowI hI g ?_
    rw [Int.toNat_natCast]
    refine g_lt_copies_26 za (e_ta_countAlike za h64 ru hI.l hI.lo hw h14 (fun M1 L1 f1 => g_lt_copies_33 ?_))
    exact h M1 L1 (hI.fr f1 (by decide)) (f1.aM (by decide))
  · rw [if_neg g] at h
    rw [if_neg g, if_neg (by decide)]
    refine e_lt_noFar (k := 1) hI (by omega) (fun M1 I f => g_lt_copies_13 (h M1 L I f))
end TG
