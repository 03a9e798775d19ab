/-! copies, by the class: the machine -/
theorem cnt_cut {f : Nat → Bool} {k : Nat} : ∀ {m : Nat}, k ≤ m → cnt (fun i => decide (i < k) && f i) m = cnt f k
  | 0, h => by rw [show k = 0 by omega]; rfl
  | m + 1, h => by
    by_cases e : k = m + 1
    · subst e
      exact cnt_c (fun i hi => by rw [decide_eq_true hi, Bool.true_and])
    · rw [cnt_n (by rw [decide_eq_false (show ¬ m < k by omega), Bool.false_and])]
      exact cnt_cut (m := m) (by omega)
theorem anx_bit {a b i : Nat} : (a ^^^ (a &&& b)).testBit i = (a.testBit i && !b.testBit i) := by
  rw [Nat.testBit_xor, Nat.testBit_and]
  cases a.testBit i <;> cases b.testBit i <;> rfl
section TP
variable {d : Nat} {M M' L : zM} {Q : Int → zW → Prop} {P R : Nat → Nat} {ws : List (List Int)} {tx : List Int} {hs : List zLw} {kp : zKp} {ls : Nat → Option (List Int)} {rf : Nat → Int} {u : List Int} {r : Nat}
/-- what lies behind k of the letters below a -/
def bh (P : Nat → Nat) (u : List Int) (k a : Nat) : Nat := bs (fun i => decide (le u i < a) && !psL P (u.getD k 0) (u.getD i 0)) k
theorem le_at (hw : isW u) {i : Nat} (hi : i < u.length) : u.getD i 0 = (le u i : Int) := by
  have := isW_at hw hi
  unfold le
  omega
theorem bh_0 {k : Nat} : bh P u k 0 = 0 := by
  apply Nat.eq_of_testBit_eq
  intro i
  unfold bh
  rw [bs_bit, decide_eq_false (show ¬ le u i < 0 by omega), Bool.false_and, Bool.and_false, Nat.zero_testBit]
theorem bh_y (hw : isW u) {k a : Nat} (hk : k < u.length) (h : psL P (u.getD k 0) (a : Int) = false) : bh P u k (a + 1) = bh P u k a ||| lp u a k := by
  apply Nat.eq_of_testBit_eq
  intro i
  unfold bh lp
  rw [Nat.testBit_or, bs_bit, bs_bit, bs_bit]
  by_cases g : i < k
  · rw [decide_eq_true g]
    by_cases e : le u i = a
    · rw [le_at hw (show i < u.length by omega), e, h]; simp
    · have : decide (le u i < a + 1) = decide (le u i < a) := decide_eq_decide.mpr (by omega)
      rw [this]; simp [e]
  · simp [g]
theorem bh_n (hw : isW u) {k a : Nat} (hk : k < u.length) (h : psL P (u.getD k 0) (a : Int) = true) : bh P u k (a + 1) = bh P u k a := by
  apply Nat.eq_of_testBit_eq
  intro i
  unfold bh
  rw [bs_bit, bs_bit]
  by_cases g : i < k
  · rw [decide_eq_true g]
    by_cases e : le u i = a
    · rw [le_at hw (show i < u.length by omega), e, h]; simp
    · have : decide (le u i < a + 1) = decide (le u i < a) := decide_eq_decide.mpr (by omega)
      rw [this]
  · simp [g]
theorem bh_6 (hw : isW u) {k : Nat} (hk : k < u.length) : bh P u k 6 = ahK P u k k := by
  apply Nat.eq_of_testBit_eq
  intro i
  unfold bh
  rw [bs_bit, ahK_bit]
  by_cases g : i < k
  · rw [decide_eq_true (le_6 hw (show i < u.length by omega)), Bool.true_and]
  · simp [g]
theorem lp_s {k a : Nat} : lp u a (k + 1) = if le u k = a then lp u a k ||| 2 ^ k else lp u a k := by
  show (if decide (le u k = a) = true then _ else _) = _
  simp only [decide_eq_true_eq]
  rfl
theorem lp_cnt {a : Nat} (h14 : u.length ≤ 14) : bcn (lp u a u.length) = ln u a := by
  rw [bcn_cnt14 (p2_14 (show lp u a u.length < 2 ^ u.length from bs_lt _) h14)]
  have : cnt (fun i => (lp u a u.length).testBit i) 14 = cnt (fun i => decide (i < u.length) && decide (le u i = a)) 14 := cnt_c (fun i _ => bs_bit _)
  rw [this, cnt_cut h14]
  rfl
theorem ta_pr1 (hr : zRow r) (h : ∀ M', (∀ a, a < 6 → M' 93 a = 0) → cFr [93] M M' → zEx (d + 4) m_ta_prepare zb0 Q 23 ([zR 89, zR r, zR 1, zI 0, zN, zN], [], SH, M', L)) :
    ∀ (n a : Nat) (Mk : zM), a + n = 6 → (∀ i, i < a → Mk 93 i = 0) → cFr [93] M Mk → zEx (d + 4) m_ta_prepare zb0 Q 2 ([zR 89, zR r, zR 1, zI (a : Int), zN, zN], [], SH, Mk, L) := by
  intro n
  induction n with
  | zero =>
    intro a Mk ha h1 hf
    refine g_ta_prepare_2 hr zLaw_1 ?_
    rw [if_neg (by omega)]
    exact h Mk (fun i hi => h1 i (by omega)) hf
  | succ n ih =>
    intro a Mk ha h1 hf
    refine g_ta_prepare_2 hr zLaw_1 ?_
    simp (disch := omega) only [zck_t, if_pos, if_neg, if_true, if_false, zwr_id, Int.toNat_natCast]
    rw [show ((a : Int) + 1) = ((a + 1 : Nat) : Int) by omega]
    refine ih (a + 1) _ (by omega) (fun i hi => ?_) (fun c hc => ?_)
    · by_cases e : i = a
      · rw [e, zmu_s]
      · rw [zmu_j e]; exact h1 i (by omega)
    · rw [zmu_kf (by simpa using hc)]; exact hf c hc
theorem ta_pr2 {k : Nat} {M0 : zM} (hr : zRow r) (hl : lIs M0 1 P R) (ho : lOk P R) (hw : isW u) (h14 : u.length ≤ 14) (hk : k < u.length) (hp : ∀ a, a < 6 → M0 93 a = (lp u a k : Int))
    (h : ∀ M', M' 94 k = (ahK P u k k : Int) → (∀ j, j ≠ k → M' 94 j = M0 94 j) → cFr [94] M0 M' → zEx (d + 4) m_ta_prepare zb0 Q 99 ([zR 89, zR r, zR 1, zI (k : Int), zI (u.getD k 0), zI 6], [zI 0], SH, M', L)) :
    ∀ (n a : Nat) (Mk : zM), a + n = 6 → Mk 94 k = (bh P u k a : Int) → (∀ j, j ≠ k → Mk 94 j = M0 94 j) → cFr [94] M0 Mk → zEx (d + 4) m_ta_prepare zb0 Q 54 ([zR 89, zR r, zR 1, zI (k : Int), zI (u.getD k 0), zI (a : Int)], [], SH, Mk, L) := by
  have hlk := isW_at hw hk
  intro n
  induction n with
  | zero =>
    intro a Mk ha h1 h2 hf
    have ha : a = 6 := by omega
    subst ha
    refine g_ta_prepare_54 hr zLaw_1 ?_
    rw [if_neg (by omega)]
    refine e_lt_noLetter ?_
    rw [if_pos hlk]
    exact h Mk (by rw [h1, bh_6 hw hk]) h2 hf
  | succ n ih =>
    intro a Mk ha h1 h2 hf
    have b14 := p2_14 (show bh P u k a < 2 ^ k from bs_lt _) (by omega)
    have l14 := p2_14 (show lp u a k < 2 ^ k from bs_lt _) (by omega)
    refine g_ta_prepare_54 hr zLaw_1 ?_
    rw [if_pos (by omega)]
    refine e_la_letPass zLaw_1 (hf.law hl (by decide) (by decide)) ho hlk (by omega) (g_ta_prepare_69 hr zLaw_1 ?_)
    have e93 : Mk 93 a = (lp u a k : Int) := by rw [hf 93 (by decide)]; exact hp a (by omega)
    cases g : psL P (u.getD k 0) (a : Int)
    · refine zif_t (by simp) ?_
      simp (disch := omega) only [zck_t, if_pos, if_neg, if_true, if_false, zwr_id, Int.toNat_natCast, zor_nat, h1, e93]
      rw [show ((a : Int) + 1) = ((a + 1 : Nat) : Int) by omega]
      refine ih (a + 1) _ (by omega) (by rw [zmu_s, bh_y hw hk g]) (fun j hj => ?_) (fun c hc => ?_)
      · rw [zmu_j hj]; exact h2 j hj
      · rw [zmu_kf (by simpa using hc)]; exact hf c hc
    · refine zif_f (by simp) ?_
      simp (disch := omega) only [zck_t, if_pos, if_neg, if_true, if_false, zwr_id, Int.toNat_natCast]
      rw [show ((a : Int) + 1) = ((a + 1 : Nat) : Int) by omega]
      exact ih (a + 1) _ (by omega) (by rw [h1, bh_n hw hk g]) h2 hf
theorem ta_pr3 {M0 : zM} (hr : zRow r) (hr9 : r + 1 < 64) (hu : rIs M0 r u) (hl : lIs M0 1 P R) (ho : lOk P R) (hw : isW u) (h14 : u.length ≤ 14)
    (h : ∀ (M' : zM) (v5 : zV), (∀ a, a < 6 → M' 93 a = (lp u a u.length : Int)) → (∀ j, j < u.length → M' 94 j = (ahK P u j j : Int)) → cFr [93, 94] M0 M' → zEx (d + 4) m_ta_prepare zb0 Q 126 ([zR 89, zR r, zR 1, zI 1, zI 0, v5], [], SH, M', L)) :
    ∀ (n k : Nat) (Mk : zM) (v4 v5 : zV), k + n = u.length → (∀ a, a < 6 → Mk 93 a = (lp u a k : Int)) → (∀ j, j < k → Mk 94 j = (ahK P u j j : Int)) → cFr [93, 94] M0 Mk → zEx (d + 4) m_ta_prepare zb0 Q 23 ([zR 89, zR r, zR 1, zI (k : Int), v4, v5], [], SH, Mk, L) := by
  have n1 : r ∉ [93, 94] := by simp; omega
  have n2 : r + 1 ∉ [93, 94] := by simp; omega
  intro n
  induction n with
  | zero =>
    intro k Mk v4 v5 hk h1 h2 hf
    have hk : k = u.length := by omega
    subst hk
    refine g_ta_prepare_23 hr zLaw_1 (e_ro_size hr (hf.row hu n1 n2) (g_ta_prepare_28 hr zLaw_1 ?_))
    rw [if_neg (by omega)]
    exact h Mk v5 h1 h2 hf
  | succ n ih =>
    intro k Mk v4 v5 hk h1 h2 hf
    refine g_ta_prepare_23 hr zLaw_1 (e_ro_size hr (hf.row hu n1 n2) (g_ta_prepare_28 hr zLaw_1 ?_))
    rw [if_pos (by omega), if_pos (by omega)]
    refine e_ro_get hr (hf.row hu n1 n2) (g_ta_prepare_42 hr zLaw_1 ?_)
    rw [zck_t (by omega), rget_in (by omega), Int.toNat_natCast]
    have hf1 : cFr [93, 94] M0 (zmu Mk 94 k 0) := fun c hc => by
      rw [zmu_kf (fun z => hc (by rw [z]; decide))]; exact hf c hc
    have l14 := p2_14 (show lp u (le u k) k < 2 ^ k from bs_lt _) (by omega)
    have p14 := p14 (a := k) (by omega)
    have h6 := le_6 hw (show k < u.length by omega)
    refine ta_pr2 (u := u) hr (hf1.law hl (by decide) (by decide)) ho hw h14 (by omega) (fun a ha => by rw [zmu_k (by decide)]; exact h1 a ha) (fun M1 a1 a2 f1 => ?_) 6 0 _ (by omega) (by rw [zmu_s, bh_0]; rfl) (fun j hj => rfl) cFr.rf
    refine g_ta_prepare_99 hr zLaw_1 ?_
    have e93 : ∀ a, a < 6 → M1 93 a = (lp u a k : Int) := fun a ha => by rw [f1 93 (by decide), zmu_k (by decide)]; exact h1 a ha
    rw [le_at hw (show k < u.length by omega)]
    simp (disch := omega) only [zck_t, if_pos, if_neg, if_true, if_false, zwr_id, Int.toNat_natCast, zshl_1, e93, zor_nat]
    rw [show ((k : Int) + 1) = ((k + 1 : Nat) : Int) by omega]
    refine ih (k + 1) _ _ _ (by omega) (fun a ha => ?_) (fun j hj => ?_) (fun c hc => ?_)
    · rw [lp_s]
      by_cases e : a = le u k
      · rw [e, zmu_s, if_pos rfl]
      · rw [zmu_j e, if_neg (Ne.symm e)]; exact e93 a ha
    · rw [zmu_k (by decide)]
      by_cases e : j = k
      · rw [e]; exact a1
      · rw [a2 j e, zmu_j e]; exact h2 j (by omega)
    · rw [zmu_kf (fun z => hc (by rw [z]; decide)), f1 c (fun z => hc (by simp at z; simp [z]))]
      exact hf1 c hc
theorem ta_pr4 {M0 : zM} (hr : zRow r) (hw : isW u) (h14 : u.length ≤ 14) (hp : ∀ a, a < 6 → M0 93 a = (lp u a u.length : Int))
    (h : ∀ M', (∀ a, a < 6 → M' 92 a = (spn (ln u) a : Int)) → cFr [92] M0 M' → Q (spn (ln u) 6 : Int) (SH, M', L)) :
    ∀ (n a : Nat) (Mk : zM) (v5 : zV), a + n = 6 → (∀ b, b < a → Mk 92 b = (spn (ln u) b : Int)) → cFr [92] M0 Mk → zEx (d + 4) m_ta_prepare zb0 Q 126 ([zR 89, zR r, zR 1, zI (spn (ln u) a : Int), zI (a : Int), v5], [], SH, Mk, L) := by
  have h1296 := lsp_1296 hw h14
  intro n
  induction n with
  | zero =>
    intro a Mk v5 ha h1 hf
    have ha : a = 6 := by omega
    subst ha
    refine g_ta_prepare_126 hr zLaw_1 ?_
    rw [if_neg (by omega)]
    exact h Mk h1 hf
  | succ n ih =>
    intro a Mk v5 ha h1 hf
    have hs := spn_le (N := ln u) (show a + 1 ≤ 6 by omega)
    have l14 := p2_14 (show lp u a u.length < 2 ^ u.length from bs_lt _) h14
    have hn := ln_le (u := u) (a := a)
    refine g_ta_prepare_126 hr zLaw_1 ?_
    rw [if_pos (by omega), zck_t (by omega), zck_t (by omega), Int.toNat_natCast, zmu_k (by decide), hf 93 (by decide), hp a (by omega)]
    refine e_jd_bitCount l14 (g_ta_prepare_152 hr zLaw_1 ?_)
    rw [lp_cnt h14, zwr_id (x := (ln u a : Int) + 1) (by omega) (by omega), show (spn (ln u) a : Int) * ((ln u a : Int) + 1) = ((spn (ln u) (a + 1) : Nat) : Int) by
      show _ = ((spn (ln u) a * (ln u a + 1) : Nat) : Int)
      rw [Int.natCast_mul]; rfl, zwr_id (by omega) (by omega), zwr_id (by omega) (by omega), show ((a : Int) + 1) = ((a + 1 : Nat) : Int) by omega]
    refine ih (a + 1) _ _ (by omega) (fun b hb => ?_) (fun c hc => ?_)
    · by_cases e : b = a
      · rw [e, zmu_s]
      · rw [zmu_j e]; exact h1 b (by omega)
    · rw [zmu_kf (by simpa using hc)]; exact hf c hc
theorem e_ta_prepare (hr : zRow r) (hr9 : r + 1 < 64) (hu : rIs M r u) (hl : lIs M 1 P R) (ho : lOk P R) (hw : isW u) (h14 : u.length ≤ 14)
    (h : ∀ M', (∀ a, a < 6 → M' 92 a = (spn (ln u) a : Int) ∧ M' 93 a = (lp u a u.length : Int)) → (∀ j, j < u.length → M' 94 j = (ahK P u j j : Int)) → cFr [92, 93, 94] M M' → Q (spn (ln u) 6 : Int) (SH, M', L)) : zEv (d + 4) m_ta_prepare [zR 89, zR r, zR 1] (SH, M, L) Q := by
  refine b_ta_prepare (g_ta_prepare_0 hr zLaw_1 (ta_pr1 hr (fun M1 a1 f1 => ?_) 6 0 M (by omega) (fun i hi => by omega) cFr.rf))
  have n1 : r ∉ [93] := by simp; omega
  have n2 : r + 1 ∉ [93] := by simp; omega
  refine ta_pr3 hr hr9 (f1.row hu n1 n2) (f1.law hl (by decide) (by decide)) ho hw h14 (fun M2 v5 a2 b2 f2 => ?_) u.length 0 M1 _ _ (by omega) (fun a ha => a1 a ha) (fun j hj => by omega) cFr.rf
  refine ta_pr4 (u := u) hr hw h14 a2 (fun M3 a3 f3 => ?_) 6 0 M2 _ (by omega) (fun b hb => by omega) cFr.rf
  refine h M3 (fun a ha => ⟨a3 a ha, by rw [f3 93 (by decide)]; exact a2 a ha⟩) (fun j hj => by rw [f3 94 (by decide)]; exact b2 j hj) ?_
  exact ((f1.up (by decide)).tr (f2.up (by decide))).tr (f3.up (by decide))
end TP
