/-! Laws: counting -/
/-- a set of letters that all pass one another -/
def frB (P : Nat → Nat) (set : Nat) : Bool := (List.range 6).all (fun a => !set.testBit a || ((set ^^^ (set &&& 2 ^ a)) ^^^ ((set ^^^ (set &&& 2 ^ a)) &&& P a)) == 0)
theorem frB_iff {P : Nat → Nat} {set : Nat} : frB P set = true ↔ ∀ a, a < 6 → set.testBit a = true → (set ^^^ (set &&& 2 ^ a)) ^^^ ((set ^^^ (set &&& 2 ^ a)) &&& P a) = 0 := by
  unfold frB
  rw [List.all_eq_true]
  constructor
  · intro h a ha hb
    have := h a (List.mem_range.mpr ha)
    rw [hb] at this
    simpa using this
  · intro h a ha
    cases q : set.testBit a
    · rfl
    · have := h a (List.mem_range.mp ha) q
      rw [this]; rfl
/-- what hangs together: one round up to k, and n rounds -/
def prt (P : Nat → Nat) (st : Nat) : Nat → Nat → Nat
  | 0, s => s
  | k + 1, s => if (prt P st k s).testBit k then prt P st k s ||| (st ^^^ (st &&& P k)) else prt P st k s
def prs (P : Nat → Nat) (st : Nat) : Nat → Nat → Nat
  | 0, s => s
  | n + 1, s => prt P st 6 (prs P st n s)
def nPairs (P : Nat → Nat) : Nat := cnt (fun b => (P 1).testBit b) 1 + cnt (fun b => (P 2).testBit b) 2 + cnt (fun b => (P 3).testBit b) 3 + cnt (fun b => (P 4).testBit b) 4 + cnt (fun b => (P 5).testBit b) 5
theorem xor_and_lt {a b n : Nat} (h : a < 2 ^ n) : a ^^^ (a &&& b) < 2 ^ n := Nat.xor_lt_two_pow h (Nat.lt_of_le_of_lt Nat.and_le_left h)
section LC
variable {d : Nat} {M L : zM} {Q : Int → zW → Prop} {l o r : Nat} {P R : Nat → Nat} {a b : Int} {u v : List Int}
theorem prt_lt {st : Nat} (hs : st < 64) : ∀ (k s : Nat), s < 64 → prt P st k s < 64
  | 0, s, h => h
  | k + 1, s, h => by
    have := prt_lt hs k s h
    unfold prt
    split
    · exact Nat.or_lt_two_pow (n := 6) (by omega) (xor_and_lt (n := 6) (by omega))
    · exact this
theorem prs_lt {st : Nat} (hs : st < 64) : ∀ (k s : Nat), s < 64 → prs P st k s < 64
  | 0, s, h => h
  | k + 1, s, h => prt_lt hs 6 _ (prs_lt hs k s h)
theorem bcn_sum {n : Nat} (h : n < 64) : bcn n = (if n.testBit 0 then 1 else 0) + (if n.testBit 1 then 1 else 0) + (if n.testBit 2 then 1 else 0) + (if n.testBit 3 then 1 else 0) + (if n.testBit 4 then 1 else 0) + (if n.testBit 5 then 1 else 0) := by
  rw [bcn_cnt n h]
  simp only [cnt]
  omega
theorem nPairs_ok (ho : lOk P R) : bcn (P 0) + bcn (P 1) + bcn (P 2) + bcn (P 3) + bcn (P 4) + bcn (P 5) = 2 * nPairs P := by
  obtain ⟨h1, h2, h3, -, -⟩ := ho
  rw [bcn_sum (h1 0 (by omega)), bcn_sum (h1 1 (by omega)), bcn_sum (h1 2 (by omega)), bcn_sum (h1 3 (by omega)), bcn_sum (h1 4 (by omega)), bcn_sum (h1 5 (by omega))]
  rw [h3 0 (by omega), h3 1 (by omega), h3 2 (by omega), h3 3 (by omega), h3 4 (by omega), h3 5 (by omega)]
  rw [h2 0 1 (by omega) (by omega), h2 0 2 (by omega) (by omega), h2 0 3 (by omega) (by omega), h2 0 4 (by omega) (by omega), h2 0 5 (by omega) (by omega), h2 1 2 (by omega) (by omega), h2 1 3 (by omega) (by omega), h2 1 4 (by omega) (by omega), h2 1 5 (by omega) (by omega), h2 2 3 (by omega) (by omega), h2 2 4 (by omega) (by omega), h2 2 5 (by omega) (by omega), h2 3 4 (by omega) (by omega), h2 3 5 (by omega) (by omega), h2 4 5 (by omega) (by omega)]
  unfold nPairs
  simp only [cnt, Bool.false_eq_true, if_false]
  omega
theorem bcn_le6 {n : Nat} (h : n < 64) : bcn n ≤ 6 := by rw [bcn_cnt n h]; exact cnt_le _ 6
def bcs (P : Nat → Nat) : Nat → Nat
  | 0 => 0
  | k + 1 => bcs P k + bcn (P k)
theorem bcs_le (hp : ∀ a, a < 6 → P a < 64) : ∀ k, k ≤ 6 → bcs P k ≤ 6 * k
  | 0, _ => by simp [bcs]
  | k + 1, h => by
    have := bcs_le hp k (by omega)
    have := bcn_le6 (hp k (by omega))
    unfold bcs
    omega
theorem la_pairs_loop (hz : zLaw l) (hl : lIs M l P R) (hlo : lOk P R) (h : Q (nPairs P : Int) (SH, M, L)) :
    ∀ (n k : Nat), k + n = 6 → zEx (d + 2) m_la_howManyPairs zb0 Q 4 ([zR l, zI (bcs P k : Int), zI (k : Int)], [], SH, M, L) := by
  have z1 := hz.2.2.2.2.2.1
  intro n
  induction n with
  | zero =>
    intro k hk
    have hk : k = 6 := by omega
    subst hk
    refine g_la_howManyPairs_4 hz ?_
    simp (disch := omega) only [zck_t, if_pos, if_neg, if_true, if_false, zwr_id, Int.toNat_natCast]
    have e : bcs P 6 = 2 * nPairs P := by rw [← nPairs_ok hlo]; simp [bcs]
    have b6 := bcs_le hlo.1 6 (by omega)
    rw [e, show zdiv ((2 * nPairs P : Nat) : Int) 2 = ((2 * nPairs P / 2 : Nat) : Int) from zdiv_nat (b := 2) (by omega) (by omega) (by omega), show 2 * nPairs P / 2 = nPairs P by omega]
    exact h
  | succ n ih =>
    intro k hk
    have hp := hlo.1 k (by omega)
    have b6 := bcs_le hlo.1 k (by omega)
    have b7 := bcn_le6 hp
    refine g_la_howManyPairs_4 hz ?_
    simp (disch := omega) only [zck_t, if_pos, if_neg, if_true, if_false, zwr_id, Int.toNat_natCast, (hl k (by omega)).1]
    refine e_jd_bitCount (by omega) (g_la_howManyPairs_20 hz ?_)
    simp (disch := omega) only [zck_t, if_pos, if_neg, if_true, if_false, zwr_id, Int.toNat_natCast]
    rw [show (bcs P k : Int) + (bcn (P k) : Int) = ((bcs P k + bcn (P k) : Nat) : Int) by omega, show ((k : Int) + 1) = ((k + 1 : Nat) : Int) by omega]
    exact ih (k + 1) (by omega)
theorem e_la_howManyPairs (hz : zLaw l) (hl : lIs M l P R) (hlo : lOk P R) (h : Q (nPairs P : Int) (SH, M, L)) : zEv (d + 2) m_la_howManyPairs [zR l] (SH, M, L) Q :=
  b_la_howManyPairs (g_la_howManyPairs_0 hz (la_pairs_loop hz hl hlo h 6 0 (by omega)))
theorem zbit_if {x : Nat} {k : Nat} (hk : k < 32) (hx : x < 2147483648) : (zand (zshr (x : Int) (k : Int)) 1 = 1) = (x.testBit k = true) := by
  rw [zbit_nat hk hx]
  cases x.testBit k
  · simp
  · simp
theorem la_low_loop {s : Nat} (hs : s < 64) (hz : zLaw l) (hl : lIs M l P R) (h : Q (cnt (fun a => s.testBit a && decide (R a < 3)) 6 : Int) (SH, M, L)) :
    ∀ (n k : Nat), k + n = 6 → zEx (d + 1) m_la_howManyLow zb0 Q 4 ([zR l, zI (s : Int), zI (cnt (fun a => s.testBit a && decide (R a < 3)) k : Int), zI (k : Int)], [], SH, M, L) := by
  have z1 := hz.2.2.2.2.2.2
  intro n
  induction n with
  | zero =>
    intro k hk
    have hk : k = 6 := by omega
    subst hk
    refine g_la_howManyLow_4 hz ?_
    simp (disch := omega) only [zck_t, if_pos, if_neg, if_true, if_false, zwr_id, Int.toNat_natCast]
    exact h
  | succ n ih =>
    intro k hk
    have c6 := cnt_le (fun a => s.testBit a && decide (R a < 3)) k
    refine g_la_howManyLow_4 hz ?_
    have e := ih (k + 1) (by omega)
    simp (disch := omega) only [zck_t, if_pos, if_neg, if_true, if_false, zwr_id, Int.toNat_natCast, (hl k (by omega)).2, zbit_if]
    rw [show ((k : Int) + 1) = ((k + 1 : Nat) : Int) by omega]
    by_cases g : s.testBit k = true
    · rw [if_pos g]
      by_cases g2 : R k < 3
      · rw [if_pos (by omega)]
        rw [cnt_s (by simp [g, g2])] at e
        exact e
      · rw [if_neg (by omega)]
        rw [cnt_n (by simp [g2])] at e
        exact e
    · rw [if_neg g]
      rw [cnt_n (by simp [g])] at e
      exact e
theorem e_la_howManyLow {s : Nat} (hs : s < 64) (hz : zLaw l) (hl : lIs M l P R) (h : Q (cnt (fun a => s.testBit a && decide (R a < 3)) 6 : Int) (SH, M, L)) : zEv (d + 1) m_la_howManyLow [zR l, zI (s : Int)] (SH, M, L) Q :=
  b_la_howManyLow (g_la_howManyLow_0 hz (la_low_loop hs hz hl h 6 0 (by omega)))
theorem la_part_in {s x : Nat} {t4 : Int} {a1 : Int} (hs : s < 64) (hx : x < 64) (hz : zLaw l) (hl : lIs M l P R) (hp : ∀ a, a < 6 → P a < 64) (h : zEx (d + 1) m_la_partOf zb0 Q 9 ([zR l, zI a1, zI (s : Int), zI (prt P s 6 x : Int), zI (zwr (t4 + 1)), zI 6], [], SH, M, L)) :
    ∀ (n k : Nat), k + n = 6 → zEx (d + 1) m_la_partOf zb0 Q 19 ([zR l, zI a1, zI (s : Int), zI (prt P s k x : Int), zI t4, zI (k : Int)], [], SH, M, L) := by
  have z1 := hz.2.2.2.2.2.1
  intro n
  induction n with
  | zero =>
    intro k hk
    have hk : k = 6 := by omega
    subst hk
    refine g_la_partOf_19 hz ?_
    rw [if_neg (by decide)]
    exact h
  | succ n ih =>
    intro k hk
    have hpk := hp k (by omega)
    have l1 := prt_lt (P := P) hs k x hx
    have l2 : s ^^^ (s &&& P k) < 2 ^ 6 := xor_and_lt (by omega)
    have e := ih (k + 1) (by omega)
    refine g_la_partOf_19 hz ?_
    simp (disch := omega) only [zck_t, if_pos, if_neg, if_true, if_false, zwr_id, Int.toNat_natCast, (hl k (by omega)).1, zbit_if, zandn_nat, zor_nat]
    rw [show ((k : Int) + 1) = ((k + 1 : Nat) : Int) by omega]
    by_cases g : (prt P s k x).testBit k = true
    · rw [if_pos g]
      rw [show prt P s (k + 1) x = prt P s k x ||| (s ^^^ (s &&& P k)) from if_pos g] at e
      exact e
    · rw [if_neg g]
      rw [show prt P s (k + 1) x = prt P s k x from if_neg g] at e
      exact e
theorem la_part_out {s x : Nat} {a1 : Int} (hs : s < 64) (hx : x < 64) (hz : zLaw l) (hl : lIs M l P R) (hp : ∀ a, a < 6 → P a < 64) (h : Q (prs P s 6 x : Int) (SH, M, L)) :
    ∀ (n k : Nat) (v5 : zV), k + n = 6 → zEx (d + 1) m_la_partOf zb0 Q 9 ([zR l, zI a1, zI (s : Int), zI (prs P s k x : Int), zI (k : Int), v5], [], SH, M, L) := by
  intro n
  induction n with
  | zero =>
    intro k v5 hk
    have hk : k = 6 := by omega
    subst hk
    refine g_la_partOf_9 hz ?_
    rw [if_neg (by decide)]
    exact h
  | succ n ih =>
    intro k v5 hk
    refine g_la_partOf_9 hz ?_
    simp (disch := omega) only [zck_t, if_pos, if_neg, if_true, if_false, zwr_id, Int.toNat_natCast]
    refine la_part_in hs (prs_lt hs k x hx) hz hl hp ?_ 6 0 (by omega)
    rw [zwr_id (by omega) (by omega), show ((k : Int) + 1) = ((k + 1 : Nat) : Int) by omega]
    exact ih (k + 1) _ (by omega)
theorem and_two_pow {s a : Nat} : s &&& 2 ^ a = if s.testBit a then 2 ^ a else 0 := by
  apply Nat.eq_of_testBit_eq
  intro i
  rw [Nat.testBit_and, Nat.testBit_two_pow]
  by_cases q : a = i
  · subst q
    cases s.testBit a <;> simp
  · cases s.testBit a <;> simp [q]
theorem e_la_partOf {s : Nat} (ha : 0 ≤ a ∧ a < 6) (hs : s < 64) (hz : zLaw l) (hl : lIs M l P R) (hp : ∀ a, a < 6 → P a < 64) (h : Q (prs P s 6 (if s.testBit a.toNat then 2 ^ a.toNat else 0) : Int) (SH, M, L)) : zEv (d + 1) m_la_partOf [zR l, zI a, zI (s : Int)] (SH, M, L) Q := by
  refine b_la_partOf (g_la_partOf_0 hz ?_)
  have ea := p6 (a := a.toNat) (by omega)
  rw [zshl_1 ha.1 (by omega), zand_nat (by omega), and_two_pow]
  exact la_part_out hs (by split <;> omega) hz hl hp h 6 0 zN (by omega)
/-- how many parts, as the class counts: what is left, how many -/
def hmp (P : Nat → Nat) (s : Nat) : Nat → Nat × Nat
  | 0 => (s, 0)
  | k + 1 => if (hmp P s k).1.testBit k then ((hmp P s k).1 ^^^ ((hmp P s k).1 &&& prs P s 6 (if s.testBit k then 2 ^ k else 0)), (hmp P s k).2 + 1) else hmp P s k
theorem hmp_lt {s : Nat} (hs : s < 64) : ∀ k, (hmp P s k).1 < 64 ∧ (hmp P s k).2 ≤ k
  | 0 => ⟨hs, Nat.le_refl _⟩
  | k + 1 => by
    have := hmp_lt hs k
    unfold hmp
    split
    · exact ⟨xor_and_lt (n := 6) this.1, by dsimp only; omega⟩
    · omega
theorem la_parts_loop {s : Nat} (hs : s < 64) (hz : zLaw l) (hl : lIs M l P R) (hp : ∀ a, a < 6 → P a < 64) (h : Q ((hmp P s 6).2 : Int) (SH, M, L)) :
    ∀ (n k : Nat), k + n = 6 → zEx (d + 2) m_la_howManyParts zb0 Q 7 ([zR l, zI (s : Int), zI ((hmp P s k).1 : Int), zI ((hmp P s k).2 : Int), zI (k : Int)], [], SH, M, L) := by
  intro n
  induction n with
  | zero =>
    intro k hk
    have hk : k = 6 := by omega
    subst hk
    refine g_la_howManyParts_7 hz ?_
    rw [if_neg (by decide)]
    exact h
  | succ n ih =>
    intro k hk
    have hh := hmp_lt (P := P) hs k
    have e := ih (k + 1) (by omega)
    refine g_la_howManyParts_7 hz ?_
    simp (disch := omega) only [zck_t, if_pos, if_neg, if_true, if_false, zwr_id, Int.toNat_natCast, zbit_if]
    by_cases g : (hmp P s k).1.testBit k = true
    · rw [if_pos g]
      refine e_la_partOf ⟨by omega, by omega⟩ hs hz hl hp (g_la_howManyParts_32 hz ?_)
      have ek := p6 (a := k) (by omega)
      have l3 : prs P s 6 (if s.testBit k then 2 ^ k else 0) < 64 := prs_lt hs 6 _ (by split <;> omega)
      simp (disch := omega) only [zck_t, if_pos, if_neg, if_true, if_false, zwr_id, Int.toNat_natCast, zandn_nat]
      rw [show ((k : Int) + 1) = ((k + 1 : Nat) : Int) by omega, show ((hmp P s k).2 : Int) + 1 = (((hmp P s k).2 + 1 : Nat) : Int) by omega]
      rw [show hmp P s (k + 1) = ((hmp P s k).1 ^^^ ((hmp P s k).1 &&& prs P s 6 (if s.testBit k then 2 ^ k else 0)), (hmp P s k).2 + 1) from if_pos g] at e
      exact e
    · rw [if_neg g, show ((k : Int) + 1) = ((k + 1 : Nat) : Int) by omega]
      rw [show hmp P s (k + 1) = hmp P s k from if_neg g] at e
      exact e
theorem e_la_howManyParts {s : Nat} (hs : s < 64) (hz : zLaw l) (hl : lIs M l P R) (hp : ∀ a, a < 6 → P a < 64) (h : Q ((hmp P s 6).2 : Int) (SH, M, L)) : zEv (d + 2) m_la_howManyParts [zR l, zI (s : Int)] (SH, M, L) Q :=
  b_la_howManyParts (g_la_howManyParts_0 hz (la_parts_loop hs hz hl hp h 6 0 (by omega)))
theorem la_free_loop {s : Nat} (hs : s < 64) (hz : zLaw l) (hl : lIs M l P R) (hp : ∀ a, a < 6 → P a < 64) (h : Q (if frB P s then 1 else 0) (SH, M, L)) :
    ∀ (n k : Nat) (v3 : zV), k + n = 6 → (∀ a, a < k → s.testBit a = true → (s ^^^ (s &&& 2 ^ a)) ^^^ ((s ^^^ (s &&& 2 ^ a)) &&& P a) = 0) → zEx (d + 1) m_la_isFree zb0 Q 2 ([zR l, zI (s : Int), zI (k : Int), v3], [], SH, M, L) := by
  have z1 := hz.2.2.2.2.2.1
  intro n
  induction n with
  | zero =>
    intro k v3 hk hall
    have hk : k = 6 := by omega
    subst hk
    refine g_la_isFree_2 hz ?_
    rw [if_neg (by decide)]
    rw [if_pos (frB_iff.mpr hall)] at h
    exact h
  | succ n ih =>
    intro k v3 hk hall
    have hpk := hp k (by omega)
    have ek := p6 (a := k) (by omega)
    have l2 : s ^^^ (s &&& 2 ^ k) < 2 ^ 6 := xor_and_lt (by omega)
    refine g_la_isFree_2 hz ?_
    simp (disch := omega) only [zck_t, if_pos, if_neg, if_true, if_false, zwr_id, Int.toNat_natCast, (hl k (by omega)).1, zbit_if, zshl_1, zandn_nat]
    rw [show ((k : Int) + 1) = ((k + 1 : Nat) : Int) by omega]
    by_cases g : s.testBit k = true
    · rw [if_pos g]
      by_cases g2 : (s ^^^ (s &&& 2 ^ k)) ^^^ ((s ^^^ (s &&& 2 ^ k)) &&& P k) = 0
      · rw [if_pos (by omega)]
        refine ih (k + 1) _ (by omega) (fun a ha hb => ?_)
        by_cases q : a = k
        · subst q; exact g2
        · exact hall a (by omega) hb
      · rw [if_neg (by omega)]
        rw [if_neg (fun q => g2 (frB_iff.mp q k (by omega) g))] at h
        exact h
    · rw [if_neg g]
      refine ih (k + 1) _ (by omega) (fun a ha hb => ?_)
      by_cases q : a = k
      · subst q; exact absurd hb g
      · exact hall a (by omega) hb
theorem e_la_isFree {s : Nat} (hs : s < 64) (hz : zLaw l) (hl : lIs M l P R) (hp : ∀ a, a < 6 → P a < 64) (h : Q (if frB P s then 1 else 0) (SH, M, L)) : zEv (d + 1) m_la_isFree [zR l, zI (s : Int)] (SH, M, L) Q :=
  b_la_isFree (g_la_isFree_0 hz (la_free_loop hs hz hl hp h 6 0 zN (by omega) (fun a ha => by omega)))
theorem la_hmFree_loop (hz : zLaw l) (hl : lIs M l P R) (hp : ∀ a, a < 6 → P a < 64) (h : Q (cnt (frB P) 64 : Int) (SH, M, L)) :
    ∀ (n k : Nat), k + n = 64 → zEx (d + 2) m_la_howManyFree zb0 Q 4 ([zR l, zI (cnt (frB P) k : Int), zI (k : Int)], [], SH, M, L) := by
  intro n
  induction n with
  | zero =>
    intro k hk
    have hk : k = 64 := by omega
    subst hk
    refine g_la_howManyFree_4 hz ?_
    rw [if_neg (by decide)]
    exact h
  | succ n ih =>
    intro k hk
    have c6 := cnt_le (frB P) k
    have e := ih (k + 1) (by omega)
    refine g_la_howManyFree_4 hz ?_
    simp (disch := omega) only [zck_t, if_pos, if_neg, if_true, if_false, zwr_id, Int.toNat_natCast]
    refine e_la_isFree (by omega) hz hl hp (g_la_howManyFree_15 hz ?_)
    simp (disch := omega) only [zck_t, if_pos, if_neg, if_true, if_false, zwr_id, Int.toNat_natCast]
    rw [show ((k : Int) + 1) = ((k + 1 : Nat) : Int) by omega]
    cases g : frB P k
    · rw [cnt_n g] at e
      exact e
    · rw [cnt_s g] at e
      exact e
theorem e_la_howManyFree (hz : zLaw l) (hl : lIs M l P R) (hp : ∀ a, a < 6 → P a < 64) (h : Q (cnt (frB P) 64 : Int) (SH, M, L)) : zEv (d + 2) m_la_howManyFree [zR l] (SH, M, L) Q :=
  b_la_howManyFree (g_la_howManyFree_0 hz (la_hmFree_loop hz hl hp h 64 0 (by omega)))
end LC
