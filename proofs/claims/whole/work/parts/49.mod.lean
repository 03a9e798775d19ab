/-! the reference: odds; what stands ahead; spread -/
section NE
variable {d : Nat} {M M' L : zM} {Q : Int → zW → Prop} {P R : Nat → Nat} {ws : List (List Int)} {tx : List Int} {hs : List zLw} {kp : zKp} {ls : Nat → Option (List Int)} {rf : Nat → Int}
theorem e_mo_gcd : ∀ (n a b : Nat) (d : Nat) (Q : Int → zW → Prop), b ≤ n → a < 2147483648 → b < 2147483648 → Q (Nat.gcd a b : Int) (SH, M, L) → zEv (d + n + 1) m_mo_common_ [zL (a : Int), zL (b : Int)] (SH, M, L) Q := by
  intro n
  induction n with
  | zero =>
    intro a b d Q hb ha hb2 h
    have hb : b = 0 := by omega
    subst hb
    rw [Nat.gcd_zero_right] at h
    refine b_mo_common_ (g_mo_common__0 ?_)
    rw [if_pos (by decide)]
    exact g_mo_common__17 h
  | succ n ih =>
    intro a b d Q hb ha hb2 h
    refine b_mo_common_ (g_mo_common__0 ?_)
    by_cases q : b = 0
    · subst q
      rw [Nat.gcd_zero_right] at h
      rw [if_pos (by decide)]
      exact g_mo_common__17 h
    · have hz : ¬ zcmp (b : Int) 0 = 0 := by unfold zcmp; rw [if_pos (by omega)]; decide
      rw [if_neg hz, zck_t (by omega), zlrem_nat (by omega) (by omega) (by omega)]
      have hm := Nat.mod_lt a (show 0 < b by omega)
      refine ih b (a % b) d _ (by omega) (by omega) (by omega) (g_mo_common__17 ?_)
      have e : Nat.gcd a b = Nat.gcd b (a % b) := by rw [Nat.gcd_comm a b, Nat.gcd_rec b a, Nat.gcd_comm]
      rw [← e]
      exact h
theorem cnt_or2 {s a : Nat} {f : Nat → Bool} (h : s.testBit a = false) : ∀ k, cnt (fun i => (s ||| 2 ^ a).testBit i && f i) k = cnt (fun i => s.testBit i && f i) k + (if a < k ∧ f a = true then 1 else 0)
  | 0 => by simp [cnt]
  | k + 1 => by
    show cnt _ k + _ = cnt _ k + _ + _
    rw [cnt_or2 h k]
    dsimp only
    by_cases q : a = k
    · subst q
      have e1 : (s ||| 2 ^ a).testBit a = true := by rw [or_bit]; simp
      simp only [e1, h]
      simp
    · have e1 : (s ||| 2 ^ a).testBit k = s.testBit k := by rw [or_bit, decide_eq_false q, Bool.or_false]
      simp only [e1]
      by_cases q2 : a < k ∧ f a = true
      · rw [if_pos q2, if_pos (show a < k + 1 ∧ f a = true from ⟨by omega, q2.2⟩)]; omega
      · rw [if_neg q2, if_neg (show ¬ (a < k + 1 ∧ f a = true) from fun z => q2 ⟨by omega, z.2⟩)]; omega
theorem rdK_new (ho : lOk P R) {u : List Int} (hw : isW u) {k : Nat} (hk : k < u.length) (g : rp P u k = true) : (rdK P u k).testBit (u.getD k 0).toNat = false := by
  have ha := isW_at hw hk
  cases q : (rdK P u k).testBit (u.getD k 0).toNat
  · rfl
  · obtain ⟨b, hb, e⟩ := rdK_in k (by omega) q
    have hbl := hw b (List.mem_of_mem_take hb)
    have := List.all_eq_true.mp g b hb
    rw [show u.getD k 0 = b by omega, psL_irr] at this
    cases this
theorem mo_odds_loop {w x : Int} {u : List Int} (hl : lIs M 112 P R) (ho : lOk P R) (hu : aIs M 128 u) (hw : isW u) (h14 : u.length ≤ 14) (h : zEx (d + 3) m_mo_odds zb0 Q 57 ([zR 112, zI w, zI x, zI (u.length : Int), zL (lowN P R u : Int), zN, zL (bcn (rdy P u) : Int), zN, zI (u.length : Int)], [], SH, M, L)) :
    ∀ (n k : Nat), k + n = u.length → zEx (d + 3) m_mo_odds zb0 Q 57 ([zR 112, zI w, zI x, zI (u.length : Int), zL (cnt (fun a => (rdK P u k).testBit a && decide (R a < 3)) 6 : Int), zN, zL (cnt (fun a => (rdK P u k).testBit a) 6 : Int), zN, zI (k : Int)], [], SH, M, L) := by
  intro n
  induction n with
  | zero =>
    intro k hk
    have hk : k = u.length := by omega
    subst hk
    rw [← rdy_rdK ho hw, ← bcn_cnt _ (rdy_lt hw)]
    exact h
  | succ n ih =>
    intro k hk
    have e := ih (k + 1) (by omega)
    have ha := isW_at hw (show k < u.length by omega)
    have c1 := cnt_le (fun a => (rdK P u k).testBit a) 6
    have c2 := cnt_le (fun a => (rdK P u k).testBit a && decide (R a < 3)) 6
    refine g_mo_odds_57 ?_
    rw [if_pos (by omega)]
    refine e_mo_isReady zk_128 (by rw [zl_128]; omega) hl ho hu hw (by omega) (g_mo_odds_73 ?_)
    rw [rdK_s] at e
    rw [Int.toNat_natCast, hu.1 k (by omega), (show M 114 (u.getD k 0).toNat = _ from (hl _ (by omega)).2), zwr_id (by omega) (by omega), show ((k : Int) + 1) = ((k + 1 : Nat) : Int) by omega]
    by_cases g : rp P u k = true
    · rw [if_pos g] at e
      rw [cnt_or2 (f := fun a => decide (R a < 3)) (rdK_new ho hw (by omega) g), cnt_or (rdK_new ho hw (by omega) g), if_pos (show (u.getD k 0).toNat < 6 by omega)] at e
      rw [if_pos g, if_neg (by decide), zck_t (by omega), zck_t ha]
      by_cases g2 : R (u.getD k 0).toNat < 3
      · rw [if_pos ⟨by omega, decide_eq_true g2⟩] at e
        rw [if_pos (by omega), zwl_id (by omega) (by omega), zwl_id (by omega) (by omega)]
        exact e
      · rw [if_neg (fun z => g2 (of_decide_eq_true z.2))] at e
        rw [if_neg (by omega), zwl_id (by omega) (by omega), zwl_id (by omega) (by omega), Int.add_zero]
        exact e
    · rw [if_neg g] at e
      rw [if_neg g, if_pos rfl]
      exact e
theorem c_mo_odds {w x : Int} (hI : iM M P R ws tx hs kp ls rf) (h : ∀ M1 L1, jM M1 (opOdds P R ws tx hs kp ls rf w x).1 → aC M M1 → Q (opOdds P R ws tx hs kp ls rf w x).2 (SH, M1, L1)) : zEv (d + 9) m_mo_odds [zR 112, zI w, zI x] (SH, M, L) Q := by
  unfold opOdds at h
  refine b_mo_odds ?_
  (first | refine g_mo_odds_0 ?_ | refine g_mo_odds_5 ?_ | refine g_mo_odds_13 ?_ | refine g_mo_odds_20 ?_ | refine g_mo_odds_29 ?_ | refine g_mo_odds_40 ?_ | refine g_mo_odds_57 ?_ | refine g_mo_odds_73 ?_ | refine g_mo_odds_135 ?_)
  refine e_mo_isWord hI.s ?_
  (first | refine g_mo_odds_0 ?_ | refine g_mo_odds_5 ?_ | refine g_mo_odds_13 ?_ | refine g_mo_odds_20 ?_ | refine g_mo_odds_29 ?_ | refine g_mo_odds_40 ?_ | refine g_mo_odds_57 ?_ | refine g_mo_odds_73 ?_ | refine g_mo_odds_135 ?_)
  by_cases g : wd ws w
  · obtain ⟨w1, w2, w3, w4, w5⟩ := hI.w g
    rw [if_pos g] at h ⊢
    rw [if_neg (by decide)]
    refine e_mo_isIn ?_
    (first | refine g_mo_odds_0 ?_ | refine g_mo_odds_5 ?_ | refine g_mo_odds_13 ?_ | refine g_mo_odds_20 ?_ | refine g_mo_odds_29 ?_ | refine g_mo_odds_40 ?_ | refine g_mo_odds_57 ?_ | refine g_mo_odds_73 ?_ | refine g_mo_odds_135 ?_)
    by_cases g3 : x = 0 ∨ x = 1
    · rw [if_pos g3] at h
      simp (disch := omega) only [zck_t, if_pos, if_neg, if_true, if_false, zwr_id, Int.toNat_natCast]
      refine e_mo_load hI g (Or.inl rfl) (fun M1 m1 I1 f1 => ?_)
      (first | refine g_mo_odds_0 ?_ | refine g_mo_odds_5 ?_ | refine g_mo_odds_13 ?_ | refine g_mo_odds_20 ?_ | refine g_mo_odds_29 ?_ | refine g_mo_odds_40 ?_ | refine g_mo_odds_57 ?_ | refine g_mo_odds_73 ?_ | refine g_mo_odds_135 ?_)
      by_cases g0 : gw ws w = []
      · have hz : lowN P R (gw ws w) = 0 := by rw [g0]; unfold lowN; simp [rdy, cnt]
        rw [if_pos hz] at h
        rw [if_pos (by rw [g0]; rfl)]
        exact h M1 L I1 (f1.aC (by decide))
      · have hp0 := List.length_pos_iff.mpr g0
        rw [if_neg (by omega)]
        have hr := rdy_lt (P := P) w3
        have hle := lowN_le (P := P) (R := R) w3
        have h6 := bcn_le6 hr
        have hb0 : 0 < bcn (rdy P (gw ws w)) := by
          rw [bcn_cnt _ hr]
          have hc := rdK_cnt hI.lo w3 (gw ws w).length (Nat.le_refl _)
          rw [← rdy_rdK hI.lo w3, ← rest_nrK hI.lo w3] at hc
          have := rest_len (P := P) g0
          omega
        have hg := Nat.gcd_pos_of_pos_right (lowN P R (gw ws w)) hb0
        have hg2 := Nat.gcd_le_right (n := bcn (rdy P (gw ws w))) (lowN P R (gw ws w)) hb0
        have hg1 : lowN P R (gw ws w) = 0 → Nat.gcd (lowN P R (gw ws w)) (bcn (rdy P (gw ws w))) = bcn (rdy P (gw ws w)) := fun z => by rw [z, Nat.gcd_zero_left]
        have e := h M1 L
        have e00 : cnt (fun a => (rdK P (gw ws w) 0).testBit a && decide (R a < 3)) 6 = 0 := by simp [rdK, cnt]
        have e01 : cnt (fun a => (rdK P (gw ws w) 0).testBit a) 6 = 0 := by simp [rdK, cnt]
        have ml := fun hh => mo_odds_loop (d := d + 6) (Q := Q) (L := L) (w := w) (x := x) I1.l hI.lo m1 w3 w2 hh (gw ws w).length 0 (by omega)
        rw [e00, e01] at ml
        refine ml ?_
        refine g_mo_odds_57 ?_
        rw [if_neg (by omega)]
        have key : ∀ y : Nat, y ≤ 6 → Q ((y / Nat.gcd (lowN P R (gw ws w)) (bcn (rdy P (gw ws w))) : Nat) : Int) (SH, M1, L) → zEv (d + 8) m_mo_common_ [zL (lowN P R (gw ws w) : Int), zL (bcn (rdy P (gw ws w)) : Int)] (SH, M1, L) (fun r w_1 => zEx (d + 9) m_mo_odds zb0 Q 135 ([zR 112, zI w, zI x, zI ((gw ws w).length : Int), zL (lowN P R (gw ws w) : Int), zN, zL (bcn (rdy P (gw ws w)) : Int), zN, zI ((gw ws w).length : Int)], [zL r, zL (y : Int)], w_1)) := by
          intro y hy hq
          refine e_mo_gcd 6 _ _ (d + 1) _ h6 (by omega) (by omega) (g_mo_odds_135 ?_)
          rw [zck_t (by omega), zldiv_nat (by omega) hg (by omega)]
          exact hq
        by_cases gx : x = 0
        · rw [if_pos gx]
          refine key _ (by omega) ?_
          by_cases g4 : lowN P R (gw ws w) = 0
          · rw [if_pos g4] at e
            have e := e I1 (f1.aC (by decide))
            rw [hg1 g4, g4, Nat.zero_div]
            have e : Q x (SH, M1, L) := e
            rw [gx] at e
            exact e
          · rw [if_neg g4, if_pos gx] at e
            exact e I1 (f1.aC (by decide))
        · rw [if_neg gx]
          refine key _ (by omega) ?_
          by_cases g4 : lowN P R (gw ws w) = 0
          · rw [if_pos g4] at e
            have e := e I1 (f1.aC (by decide))
            rw [hg1 g4, Nat.div_self hb0]
            have e : Q x (SH, M1, L) := e
            rw [show x = 1 by omega] at e
            exact e
          · rw [if_neg g4, if_neg gx] at e
            exact e I1 (f1.aC (by decide))
    · rw [if_neg g3] at h
      simp (disch := omega) only [zck_t, if_pos, if_neg, if_true, if_false, zwr_id, Int.toNat_natCast]
      refine e_mo_noLI (k := 2) hI (by omega) (fun M1 I f => ?_)
      (first | refine g_mo_odds_0 ?_ | refine g_mo_odds_5 ?_ | refine g_mo_odds_13 ?_ | refine g_mo_odds_20 ?_ | refine g_mo_odds_29 ?_ | refine g_mo_odds_40 ?_ | refine g_mo_odds_57 ?_ | refine g_mo_odds_73 ?_ | refine g_mo_odds_135 ?_)
      exact h M1 L I f
  · rw [if_neg g] at h ⊢
    rw [if_pos rfl]
    refine e_mo_noLI (k := 1) hI (by omega) (fun M1 I f => ?_)
    (first | refine g_mo_odds_0 ?_ | refine g_mo_odds_5 ?_ | refine g_mo_odds_13 ?_ | refine g_mo_odds_20 ?_ | refine g_mo_odds_29 ?_ | refine g_mo_odds_40 ?_ | refine g_mo_odds_57 ?_ | refine g_mo_odds_73 ?_ | refine g_mo_odds_135 ?_)
    exact h M1 L I f
/-! what stands ahead -/
def ahK (P : Nat → Nat) (u : List Int) (p : Nat) : Nat → Nat
  | 0 => 0
  | q + 1 => if psL P (u.getD p 0) (u.getD q 0) then ahK P u p q else ahK P u p q ||| 2 ^ q
def alK (al : Nat → Nat) (a0 : Nat) : Nat → Nat
  | 0 => a0
  | q + 1 => if a0.testBit q then alK al a0 q ||| al q else alK al a0 q
def aL (P : Nat → Nat) (u : List Int) : Nat → Nat → Nat
  | 0 => fun _ => 0
  | k + 1 => fun p => if p = k then alK (aL P u k) (ahK P u k k) k else aL P u k p
theorem ahK_s {u : List Int} {p q : Nat} : ahK P u p (q + 1) = if psL P (u.getD p 0) (u.getD q 0) then ahK P u p q else ahK P u p q ||| 2 ^ q := rfl
theorem alK_s {al : Nat → Nat} {a0 q : Nat} : alK al a0 (q + 1) = if a0.testBit q then alK al a0 q ||| al q else alK al a0 q := rfl
theorem ahK_bit {u : List Int} {p i : Nat} : ∀ q, (ahK P u p q).testBit i = (decide (i < q) && !psL P (u.getD p 0) (u.getD i 0))
  | 0 => by simp [ahK]
  | q + 1 => by
    rw [ahK_s]
    have ih := ahK_bit (u := u) (p := p) (i := i) q
    by_cases e : i = q
    · subst e
      split
      · next g => rw [ih, g]; simp
      · next g => rw [or_bit, ih]; simp at g; simp [g]
    · split
      · rw [ih]
        congr 1
        exact decide_eq_decide.mpr (by omega)
      · rw [or_bit, ih, decide_eq_false (p := q = i) (Ne.symm e), Bool.or_false]
        congr 1
        exact decide_eq_decide.mpr (by omega)
theorem ahK_lt {u : List Int} {p : Nat} : ∀ q, ahK P u p q < 2 ^ q
  | 0 => by simp [ahK]
  | q + 1 => by
    have h1 := ahK_lt (u := u) (p := p) q
    rw [ahK_s]
    split
    · exact Nat.lt_of_lt_of_le h1 (Nat.pow_le_pow_right (by omega) (by omega))
    · exact Nat.or_lt_two_pow (Nat.lt_of_lt_of_le h1 (Nat.pow_le_pow_right (by omega) (by omega))) (Nat.pow_lt_pow_right (by omega) (by omega))
theorem alK_lt {al : Nat → Nat} {a0 n : Nat} (h0 : a0 < 2 ^ n) : ∀ k, (∀ q, q < k → al q < 2 ^ n) → alK al a0 k < 2 ^ n
  | 0, _ => h0
  | k + 1, h => by
    have ih := alK_lt h0 k (fun q hq => h q (by omega))
    rw [alK_s]
    split
    · exact Nat.or_lt_two_pow ih (h k (by omega))
    · exact ih
theorem aL_at {u : List Int} {p : Nat} : ∀ k, p < k → aL P u k p = alK (aL P u p) (ahK P u p p) p
  | 0, h => by omega
  | k + 1, h => by
    show (if p = k then _ else _) = _
    by_cases e : p = k
    · subst e; rw [if_pos rfl]
    · rw [if_neg e]; exact aL_at k (by omega)
theorem aL_lt {u : List Int} : ∀ k p, p < k → aL P u k p < 2 ^ p
  | 0, p, h => by omega
  | k + 1, p, h => by
    show (if p = k then _ else _) < _
    by_cases e : p = k
    · subst e
      rw [if_pos rfl]
      exact alK_lt (ahK_lt p) p (fun q hq => Nat.lt_of_lt_of_le (aL_lt p q hq) (Nat.pow_le_pow_right (by omega) (by omega)))
    · rw [if_neg e]; exact aL_lt k p (by omega)
theorem alK_congr {al al' : Nat → Nat} {a0 : Nat} : ∀ k, (∀ q, q < k → al q = al' q) → alK al a0 k = alK al' a0 k
  | 0, _ => rfl
  | k + 1, h => by rw [alK_s, alK_s, alK_congr k (fun q hq => h q (by omega)), h k (by omega)]
theorem alK_bit {al : Nat → Nat} {a0 i : Nat} : ∀ k, (alK al a0 k).testBit i = true ↔ a0.testBit i = true ∨ ∃ q, q < k ∧ a0.testBit q = true ∧ (al q).testBit i = true
  | 0 => by
    constructor
    · intro h; exact Or.inl h
    · rintro (h | ⟨q, hq, _⟩)
      · exact h
      · omega
  | k + 1 => by
    rw [alK_s]
    have ih := alK_bit (al := al) (a0 := a0) (i := i) k
    constructor
    · intro h
      split at h
      · next g =>
        rw [Nat.testBit_or, Bool.or_eq_true] at h
        rcases h with h | h
        · rcases ih.mp h with z | ⟨q, z1, z2⟩
          · exact Or.inl z
          · exact Or.inr ⟨q, by omega, z2⟩
        · exact Or.inr ⟨k, by omega, g, h⟩
      · rcases ih.mp h with z | ⟨q, z1, z2⟩
        · exact Or.inl z
        · exact Or.inr ⟨q, by omega, z2⟩
    · intro h
      have old : (a0.testBit i = true ∨ ∃ q, q < k ∧ a0.testBit q = true ∧ (al q).testBit i = true) → (if a0.testBit k = true then alK al a0 k ||| al k else alK al a0 k).testBit i = true := fun z => by
        have := ih.mpr z
        split
        · rw [Nat.testBit_or, this]; rfl
        · exact this
      rcases h with h | ⟨q, h1, h2, h3⟩
      · exact old (Or.inl h)
      · by_cases e : q = k
        · subst e
          rw [if_pos h2, Nat.testBit_or, h3, Bool.or_true]
        · exact old (Or.inr ⟨q, by omega, h2, h3⟩)
/-- q must stay ahead of p -/
def bf (P : Nat → Nat) (u : List Int) (q p : Nat) : Prop := (aL P u (p + 1) p).testBit q = true
def dep (P : Nat → Nat) (u : List Int) (q p : Nat) : Prop := q < p ∧ psL P (u.getD p 0) (u.getD q 0) = false
theorem bf_iff {u : List Int} {q p : Nat} : bf P u q p ↔ dep P u q p ∨ ∃ r, dep P u r p ∧ bf P u q r := by
  unfold bf
  rw [aL_at (p + 1) (by omega), alK_bit]
  have e : ∀ i, (ahK P u p p).testBit i = true ↔ dep P u i p := fun i => by
    rw [ahK_bit]
    unfold dep
    simp
  rw [e q]
  constructor
  · rintro (h | ⟨r, h1, h2, h3⟩)
    · exact Or.inl h
    · refine Or.inr ⟨r, (e r).mp h2, ?_⟩
      rw [aL_at p h1] at h3
      rw [aL_at (r + 1) (by omega)]
      exact h3
  · rintro (h | ⟨r, h1, h2⟩)
    · exact Or.inl h
    · refine Or.inr ⟨r, h1.1, (e r).mpr h1, ?_⟩
      rw [aL_at p h1.1]
      rw [aL_at (r + 1) (by omega)] at h2
      exact h2
theorem bf_lt {u : List Int} {q p : Nat} (h : bf P u q p) : q < p := by
  unfold bf at h
  rcases Nat.lt_or_ge q p with z | z
  · exact z
  · rw [Nat.testBit_lt_two_pow (Nat.lt_of_lt_of_le (aL_lt (p + 1) p (by omega)) (Nat.pow_le_pow_right (by omega) z))] at h
    cases h
end NE
