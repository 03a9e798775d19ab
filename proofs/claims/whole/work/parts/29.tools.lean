/-! tools; flip; the small ones -/
theorem zck_t {c k : Prop} [Decidable c] (h : c) : zck c k = k := by unfold zck; rw [if_pos h]
theorem zom_t {o : Option Nat} {q : Nat} {k : Nat → Prop} (h : o = some q) : zom o k = k q := by subst h; rfl
theorem zkq_t {a b : Nat} {k : Prop} (h : a = b) : zkq a b k = k := by
  subst h
  unfold zkq
  rw [Nat.beq_refl]
  rfl
theorem zbl_0 {k : Int → Prop} : zbl 0 k = k 0 := rfl
theorem zbl_1 {k : Int → Prop} : zbl 1 k = k 1 := rfl
theorem zshl_1 {a : Int} (h0 : 0 ≤ a) (h : a < 30) : zshl 1 a = ((2 ^ a.toNat : Nat) : Int) := by
  have h2 : 2 ^ a.toNat < 2 ^ 30 := Nat.pow_lt_pow_right (by omega) (by omega)
  have := zshl_nat (a := 1) (k := a.toNat) (by omega) (by omega)
  rw [Int.toNat_of_nonneg h0, Nat.one_mul] at this
  exact this
theorem p6 {a : Nat} (h : a < 6) : 2 ^ a < 64 := Nat.pow_lt_pow_right (n := 6) (a := 2) (by omega) h
theorem p14 {a : Nat} (h : a < 14) : 2 ^ a < 16384 := Nat.pow_lt_pow_right (n := 14) (a := 2) (by omega) h
theorem zRow_64 : zRow 64 := zRow_of (by decide)
theorem zRow_67 : zRow 67 := zRow_of (by decide)
theorem zRow_101 : zRow 101 := zRow_of (by decide)
theorem zRow_103 : zRow 103 := zRow_of (by decide)
theorem zRow_108 : zRow 108 := zRow_of (by decide)
theorem zRow_110 : zRow 110 := zRow_of (by decide)
theorem zLaw_4 : zLaw 4 := zLaw_of (by decide)
theorem zLaw_47 : zLaw 47 := zLaw_of (by decide)
theorem zLaw_98 : zLaw 98 := zLaw_of (by decide)
theorem zHis {k : Nat} (h : k < 8) : zLaw (23 + 3 * k) ∧ zrf SH 22 k = some (23 + 3 * k) := by
  refine ⟨?_, ?_⟩
  · refine zLaw_of ?_
    revert k
    decide
  · revert k
    decide +kernel
theorem zNum {k : Nat} (h : k < 3) : zRow (75 + 2 * k) ∧ zrf SH 71 k = some (75 + 2 * k) ∧ zln SH (76 + 2 * k) = 40 := by
  refine ⟨zRow_of ?_, ?_⟩
  · revert k
    decide
  · revert k
    decide +kernel
section TL
variable {d : Nat} {M L : zM} {Q : Int → zW → Prop} {l o r : Nat} {P R : Nat → Nat} {a b : Int} {u v : List Int}
/-- a and b pass, or don't any more -/
def flP (P : Nat → Nat) (a b : Nat) : Nat → Nat := fun c => if c = b then P b ^^^ 2 ^ a else if c = a then P a ^^^ 2 ^ b else P c
theorem flP_ok (ho : lOk P R) {a b : Nat} (ha : a < 6) (hb : b < 6) (hne : a ≠ b) : lOk (flP P a b) R := by
  obtain ⟨h1, h2, h3, h4, h5⟩ := ho
  have bit : ∀ c e : Nat, c < 6 → (flP P a b c).testBit e = ((P c).testBit e ^^ (decide (c = b ∧ e = a) || decide (c = a ∧ e = b))) := by
    intro c e hc
    unfold flP
    by_cases q : c = b
    · subst q
      rw [if_pos rfl, Nat.testBit_xor, Nat.testBit_two_pow]
      have : ¬ c = a := by omega
      simp [this]
      congr 1
      exact eq_comm
    · rw [if_neg q]
      by_cases q2 : c = a
      · subst q2
        rw [if_pos rfl, Nat.testBit_xor, Nat.testBit_two_pow]
        simp [q]
        congr 1
        exact eq_comm
      · rw [if_neg q2]
        simp [q, q2]
  refine ⟨fun c hc => ?_, fun c e hc he => ?_, fun c hc => ?_, h4, h5⟩
  · unfold flP
    have ea := p6 ha
    have eb := p6 hb
    have := h1 a ha
    have := h1 b hb
    have := h1 c hc
    split
    · exact Nat.xor_lt_two_pow (n := 6) (by omega) (by omega)
    · split
      · exact Nat.xor_lt_two_pow (n := 6) (by omega) (by omega)
      · omega
  · rw [bit c e hc, bit e c he, h2 c e hc he]
    congr 1
    by_cases q1 : c = b ∧ e = a
    · have : e = a ∧ c = b := ⟨q1.2, q1.1⟩
      simp [q1.1, q1.2]
    · by_cases q2 : c = a ∧ e = b
      · simp [q2.1, q2.2]
      · rw [decide_eq_false q1, decide_eq_false q2, decide_eq_false (fun z => q2 ⟨z.2, z.1⟩), decide_eq_false (fun z => q1 ⟨z.2, z.1⟩)]
  · rw [bit c c hc, h3 c hc, decide_eq_false (by omega), decide_eq_false (by omega)]
    rfl
theorem swR_ok (ho : lOk P R) {a b : Nat} (ha : a < 6) (hb : b < 6) : lOk P (swR R a b) := by
  obtain ⟨h1, h2, h3, h4, h5⟩ := ho
  refine ⟨h1, h2, h3, fun c hc => ?_, fun c e hc he q => ?_⟩
  · unfold swR
    split
    · exact h4 a ha
    · split
      · exact h4 b hb
      · exact h4 c hc
  · unfold swR at q
    have k1 := h5 c e hc he
    have k2 := h5 a b ha hb
    have k3 := h5 b a hb ha
    have k4 := h5 a e ha he
    have k5 := h5 b e hb he
    have k6 := h5 c a hc ha
    have k7 := h5 c b hc hb
    repeat' split at q
    all_goals omega
theorem la_flip_ok {M : zM} {c0 c1 : Nat} (hl : ∀ c, c < 6 → M c0 c = (P c : Int) ∧ M c1 c = (R c : Int)) (hc : c0 ≠ c1) (ho : lOk P R) (ha : 0 ≤ a ∧ a < 6) (hb : 0 ≤ b ∧ b < 6) (hne : a ≠ b) :
    ∀ c, c < 6 → zmu (zmu M c0 (Int.toNat a) (zxor (M c0 (Int.toNat a)) (zshl 1 b))) c0 (Int.toNat b) (zxor ((zmu M c0 (Int.toNat a) (zxor (M c0 (Int.toNat a)) (zshl 1 b))) c0 (Int.toNat b)) (zshl 1 a)) c0 c = (flP P a.toNat b.toNat c : Int) ∧ zmu (zmu M c0 (Int.toNat a) (zxor (M c0 (Int.toNat a)) (zshl 1 b))) c0 (Int.toNat b) (zxor ((zmu M c0 (Int.toNat a) (zxor (M c0 (Int.toNat a)) (zshl 1 b))) c0 (Int.toNat b)) (zshl 1 a)) c1 c = (R c : Int) := by
  intro c hc6
  have ea := p6 (a := a.toNat) (by omega)
  have eb := p6 (a := b.toNat) (by omega)
  have pa := ho.1 a.toNat (by omega)
  have pb := ho.1 b.toNat (by omega)
  refine ⟨?_, ?_⟩
  · rw [zmu_j (j := a.toNat) (by omega), (hl a.toNat (by omega)).1, (hl b.toNat (by omega)).1, zshl_1 ha.1 (by omega), zshl_1 hb.1 (by omega), zxor_nat (by omega) (by omega), zxor_nat (by omega) (by omega)]
    unfold flP
    by_cases q : c = b.toNat
    · rw [if_pos q, q, zmu_s]
    · rw [if_neg q, zmu_j q]
      by_cases q2 : c = a.toNat
      · rw [if_pos q2, q2, zmu_s]
      · rw [if_neg q2, zmu_j q2]; exact (hl c hc6).1
  · rw [zmu_k (Ne.symm hc), zmu_k (Ne.symm hc)]; exact (hl c hc6).2
theorem e_la_flip (hz : zLaw l) (hl : lIs M l P R) (ho : lOk P R) (ha : 0 ≤ a ∧ a < 6) (hb : 0 ≤ b ∧ b < 6) (hne : a ≠ b) (h : ∀ M', lIs M' l (flP P a.toNat b.toNat) R → lFr M M' l → Q 0 (SH, M', L)) : zEv (d + 3) m_la_flip [zR l, zI a, zI b] (SH, M, L) Q := by
  refine b_la_flip (g_la_flip_0 hz (e_lt_notTwoLetters (g_la_flip_5 hz ?_)))
  have z1 := hz.2.2.2.2.2.1
  simp (disch := omega) only [zck_t, if_pos, if_neg, if_true, if_false, zwr_id, Int.toNat_natCast]
  refine h _ (la_flip_ok hl (by omega) ho ha hb hne) (fun k h1 h2 => ?_)
  rw [zmu_kf h1, zmu_kf h1]
theorem e_mo_turns (hl : lIs M 112 P R) (ho : lOk P R) (ha : 0 ≤ a ∧ a < 6) (hb : 0 ≤ b ∧ b < 6) (hne : a ≠ b) (h : ∀ M', lIs M' 112 (flP P a.toNat b.toNat) R → lFr M M' 112 → Q 0 (SH, M', L)) : zEv (d + 1) m_mo_turns [zR 112, zI a, zI b] (SH, M, L) Q := by
  refine b_mo_turns (g_mo_turns_0 ?_)
  simp (disch := omega) only [zck_t, if_pos, if_neg, if_true, if_false, zwr_id, Int.toNat_natCast]
  refine h _ (la_flip_ok hl (by omega) ho ha hb hne) (fun k h1 h2 => ?_)
  rw [zmu_kf h1, zmu_kf h1]
theorem e_mo_swaps (hl : lIs M 112 P R) (ha : 0 ≤ a ∧ a < 6) (hb : 0 ≤ b ∧ b < 6) (h : ∀ M', lIs M' 112 P (swR R a.toNat b.toNat) → lFr M M' 112 → Q 0 (SH, M', L)) : zEv (d + 1) m_mo_swaps [zR 112, zI a, zI b] (SH, M, L) Q := by
  refine b_mo_swaps (g_mo_swaps_0 ?_)
  simp (disch := omega) only [zck_t, if_pos, if_neg, if_true, if_false, zwr_id, Int.toNat_natCast]
  refine h _ ?_ (fun k h1 h2 => ?_)
  · intro c hc
    have h0 := hl c hc
    refine ⟨?_, ?_⟩
    · rw [zmu_k (by omega), zmu_k (by omega)]; exact h0.1
    · unfold swR
      by_cases e : c = b.toNat
      · rw [if_pos e, e, zmu_s]; exact (hl _ (by omega)).2
      · rw [if_neg e, zmu_j e]
        by_cases e2 : c = a.toNat
        · rw [if_pos e2, e2, zmu_s]; exact (hl _ (by omega)).2
        · rw [if_neg e2, zmu_j e2]; exact h0.2
  · rw [zmu_kf h2, zmu_kf h2]
theorem e_lt_noList (h : Q (if 0 ≤ a ∧ a < 3 then 0 else 1) (SH, M, L)) : zEv (d + 1) m_lt_noList [zI a] (SH, M, L) Q := by
  refine b_lt_noList (g_lt_noList_0 (zif_c (fun q => ?_) (fun q => zif_c (fun g => ?_) (fun g => ?_))))
  · rw [if_neg (by omega)] at h; exact h
  · rw [if_pos (by omega)] at h; exact h
  · rw [if_neg (by omega)] at h; exact h
theorem e_lt_noSuch (h : Q (if a = 0 ∨ a = 1 then 0 else 1) (SH, M, L)) : zEv (d + 1) m_lt_noSuch [zI a] (SH, M, L) Q := by
  refine b_lt_noSuch (g_lt_noSuch_0 (zif_c (fun q => ?_) (fun q => zif_c (fun g => ?_) (fun g => ?_))))
  · rw [if_pos (by omega)] at h; exact h
  · rw [if_pos (by omega)] at h; exact h
  · rw [if_neg (by omega)] at h; exact h
theorem e_mo_isLetter (h : Q (if 0 ≤ a ∧ a < 6 then 1 else 0) (SH, M, L)) : zEv (d + 2) m_mo_isLetter [zI a] (SH, M, L) Q := by
  refine b_mo_isLetter (g_mo_isLetter_0 (e_mo_isIn (g_mo_isLetter_6 ?_)))
  by_cases g : 0 ≤ a ∧ a < 6
  · rw [if_pos g] at h; rw [if_pos (by omega)]; exact h
  · rw [if_neg g] at h; rw [if_neg (by omega)]; exact h
theorem e_mo_isList (h : Q (if 0 ≤ a ∧ a < 3 then 1 else 0) (SH, M, L)) : zEv (d + 2) m_mo_isList [zI a] (SH, M, L) Q := by
  refine b_mo_isList (g_mo_isList_0 (e_mo_isIn (g_mo_isList_6 ?_)))
  by_cases g : 0 ≤ a ∧ a < 3
  · rw [if_pos g] at h; rw [if_pos (by omega)]; exact h
  · rw [if_neg g] at h; rw [if_neg (by omega)]; exact h
theorem e_mo_areTwo (h : Q (if 0 ≤ a ∧ a < 6 ∧ 0 ≤ b ∧ b < 6 ∧ a ≠ b then 1 else 0) (SH, M, L)) : zEv (d + 3) m_mo_areTwo [zI a, zI b] (SH, M, L) Q := by
  refine b_mo_areTwo (g_mo_areTwo_0 (e_mo_isLetter (g_mo_areTwo_4 ?_)))
  by_cases g : 0 ≤ a ∧ a < 6
  · rw [if_pos g]
    refine zif_f (by decide) (e_mo_isLetter (g_mo_areTwo_11 ?_))
    by_cases g2 : 0 ≤ b ∧ b < 6
    · rw [if_pos g2]
      refine zif_f (by decide) (zif_c (fun q => ?_) (fun q => ?_))
      · rw [if_neg (by omega)] at h; exact h
      · rw [if_pos (by omega)] at h; exact h
    · rw [if_neg g2]
      rw [if_neg (by omega)] at h
      exact zif_t rfl h
  · rw [if_neg g]
    rw [if_neg (by omega)] at h
    exact zif_t rfl h
theorem e_mo_noLong {k : Nat} (hk : k < 7) (h : Q (4000000000000000000 + (k : Int)) (SH, zmu M 117 k (zwr (M 117 k + 1)), L)) : zEv (d + 1) m_mo_noLong [zR 112, zI (-(k : Int))] (SH, M, L) Q := by
  refine b_mo_noLong (g_mo_noLong_0 ?_)
  rw [Int.neg_neg]
  simp (disch := omega) only [zck_t, if_pos, if_neg, if_true, if_false, zwr_id, Int.toNat_natCast, zwl_id, Int.sub_neg]
  exact h
theorem e_lt_refuseFar {k : Nat} (hk : 1 ≤ k ∧ k < 7) (h : Q (4000000000000000000 + (k : Int)) (SH, zmu M 81 (k - 1) (zwr (M 81 (k - 1) + 1)), L)) : zEv (d + 2) m_lt_refuseFar [zR 0, zI (-(k : Int))] (SH, M, L) Q := by
  refine b_lt_refuseFar (g_lt_refuseFar_0 (e_lt_refuse hk (g_lt_refuseFar_8 ?_)))
  simp (disch := omega) only [zck_t, if_pos, if_neg, if_true, if_false, zwr_id, Int.toNat_natCast, zwl_id, Int.sub_neg]
  exact h
theorem e_lt_sizeOrCell {i : Int} (hr : zRow r) (hu : rIs M r u) (h : Q (if i = -1 then (u.length : Int) else rget u i) (SH, M, L)) : zEv (d + 2) m_lt_sizeOrCell [zR r, zI i] (SH, M, L) Q := by
  refine b_lt_sizeOrCell (g_lt_sizeOrCell_0 hr (zif_c (fun g => ?_) (fun g => ?_)))
  · rw [if_pos g] at h
    exact e_ro_size hr hu (g_lt_sizeOrCell_9 hr (g_lt_sizeOrCell_17 hr h))
  · rw [if_neg g] at h
    exact e_ro_get hr hu (g_lt_sizeOrCell_17 hr h)
end TL
