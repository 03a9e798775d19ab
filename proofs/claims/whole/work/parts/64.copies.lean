/-! copies, by the class: what is taken at a point -/
section CP
variable {P : Nat → Nat} {u : List Int} {a p q : Nat}
def le (u : List Int) (q : Nat) : Nat := (u.getD q 0).toNat
def lc (u : List Int) (a q : Nat) : Nat := cnt (fun i => decide (le u i = a)) q
def ln (u : List Int) (a : Nat) : Nat := lc u a u.length
def ld (u : List Int) (a p : Nat) : Nat := dg (ln u) a p
def lp (u : List Int) (a k : Nat) : Nat := bs (fun i => decide (le u i = a)) k
def tT (u : List Int) (p : Nat) : Nat := bs (fun q => decide (lc u (le u q) q < ld u (le u q) p)) u.length
theorem tT_bit : (tT u p).testBit q = (decide (q < u.length) && decide (lc u (le u q) q < ld u (le u q) p)) := bs_bit _
theorem le_6 (hw : isW u) (hq : q < u.length) : le u q < 6 := by
  have := isW_at hw hq
  unfold le
  omega
theorem le_eq (hw : isW u) {q' : Nat} (hq : q < u.length) (hq' : q' < u.length) (h : le u q = le u q') : u.getD q 0 = u.getD q' 0 := by
  have := isW_at hw hq
  have := isW_at hw hq'
  unfold le at h
  omega
theorem lc_up {i : Nat} (h : i < q) (hi : le u i = a) : lc u a i < lc u a q := cnt_up h (by simp [hi])
theorem lc_inj {i : Nat} (hi : le u i = a) (hq : le u q = a) (h : lc u a i = lc u a q) : i = q := by
  rcases Nat.lt_trichotomy i q with z | z | z
  · have := lc_up z hi; omega
  · exact z
  · have := lc_up z hq; omega
theorem lc_ex {c : Nat} (h : c < ln u a) : ∃ q, q < u.length ∧ le u q = a ∧ lc u a q = c := by
  obtain ⟨q, h1, h2, h3⟩ := cnt_ex h
  exact ⟨q, h1, of_decide_eq_true h2, h3⟩
theorem lc_sum (hw : isW u) : ∀ q, q ≤ u.length → sm (fun a => lc u a q) 6 = q
  | 0, _ => sm_0 (fun _ _ => rfl)
  | q + 1, h => by
    have ih := lc_sum hw q (by omega)
    rw [sm_1 (g := fun a => lc u a q) (i := le u q) (c := 1) (le_6 hw (by omega)) (fun j hj hne => ?_) ?_, ih]
    · show cnt _ q + _ = _
      rw [if_pos (by simp)]; rfl
    · show cnt _ q + _ = _
      rw [if_neg (by simp [Ne.symm hne])]; rfl
theorem ln_le : ln u a ≤ u.length := cnt_le _ _
theorem lsp_1296 (hw : isW u) (h14 : u.length ≤ 14) : spn (ln u) 6 ≤ 1296 := by
  refine spn_1296 ?_ (fun a _ => by have := ln_le (u := u) (a := a); omega)
  have h1 := sm_add (f := ln u) (g := fun _ => 1) 6
  have h2 : sm (ln u) 6 = u.length := lc_sum hw _ (Nat.le_refl _)
  have h3 : sm (fun _ => 1) 6 = 6 := by decide
  omega
/-- one more of a -/
theorem tT_up (h : ld u a p < ln u a) (hq : q < u.length) (ha : le u q = a) (hc : lc u a q = ld u a p) : tT u (p + spn (ln u) a) = tT u p ||| 2 ^ q := by
  apply Nat.eq_of_testBit_eq
  intro i
  rw [or_bit, tT_bit, tT_bit]
  have e1 : ld u a (p + spn (ln u) a) = ld u a p + 1 := dg_s h
  by_cases g : i < u.length
  · rw [decide_eq_true g, Bool.true_and, Bool.true_and, ← Bool.decide_or]
    apply decide_eq_decide.mpr
    by_cases e : le u i = a
    · rw [e, e1]
      constructor
      · intro z
        by_cases f : lc u a i < ld u a p
        · exact Or.inl f
        · exact Or.inr (lc_inj ha e (by omega))
      · rintro (z | z)
        · omega
        · rw [← z]; omega
    · have e2 : ld u (le u i) (p + spn (ln u) a) = ld u (le u i) p := dg_o h e
      rw [e2]
      constructor
      · exact Or.inl
      · rintro (z | z)
        · exact z
        · rw [← z] at e; exact absurd ha e
  · have g2 : ¬ q = i := fun z => g (by omega)
    rw [decide_eq_false g, decide_eq_false g2]
    rfl
theorem tT_no (hc : lc u a q = ld u a p) (ha : le u q = a) : (tT u p).testBit q = false := by
  rw [tT_bit, ha, hc, decide_eq_false (show ¬ ld u a p < ld u a p by omega), Bool.and_false]
theorem tT_lt : tT u p < 2 ^ u.length := bs_lt _
/-- a set with a gap is never come to -/
theorem wz (hw : isW u) {q' : Nat} (hqq : q < q') (hq' : q' < u.length) (hl : le u q = le u q') : ∀ (k s : Nat), s < k → s.testBit q' = true → s.testBit q = false → wW P u s = 0 := by
  have hd : (ahK P u q' q').testBit q = true := by
    rw [ahK_bit, decide_eq_true hqq, le_eq hw (by omega) hq' hl, psL_irr]; rfl
  intro k
  induction k with
  | zero => intro s h; omega
  | succ k ih =>
    intro s hk h1 h2
    rw [wW_eq, if_neg (fun z => by rw [z, Nat.zero_testBit] at h1; cases h1), Nat.zero_add]
    refine sm_0 (fun p hp => ?_)
    cases g : lst P u s p
    · rfl
    · unfold lst at g
      rw [Bool.and_eq_true] at g
      have hx := xor_lt g.1
      rw [if_pos rfl]
      by_cases e : p = q'
      · exfalso
        subst e
        have := sub0_bits.mp (of_decide_eq_true g.2) q hd
        rw [xor_bit, h2] at this
        simp at this
        omega
      · refine ih _ (by omega) ?_ ?_
        · rw [xor_bit, h1]; simp [e]
        · rw [xor_bit, h2]
          have : p ≠ q := fun z => by rw [z, h2] at g; cases g.1
          simp [this]
/-- at p a may be taken next -/
def okA (P : Nat → Nat) (u : List Int) (a p : Nat) : Prop := ∃ q, q < u.length ∧ le u q = a ∧ lc u a q = ld u a p ∧ sub0 (ahK P u q q) (tT u p)
theorem okA_n (h : okA P u a p) : ld u a p < ln u a := by
  obtain ⟨q, h1, h2, h3, _⟩ := h
  rw [← h3]
  exact lc_up h1 h2
noncomputable def vT (P : Nat → Nat) (u : List Int) (a p' : Nat) : Nat := @ite Nat (0 < ld u a p' ∧ okA P u a (p' - spn (ln u) a)) (Classical.propDecidable _) (wW P u (tT u (p' - spn (ln u) a))) 0
theorem tT_0 (hp : p < spn (ln u) 6) : tT u p = 0 ↔ p = 0 := by
  constructor
  · intro h
    have hz : ∀ a, a < 6 → dg (ln u) a p = 0 := fun a _ => by
      rcases Nat.eq_zero_or_pos (dg (ln u) a p) with z | z
      · exact z
      · exfalso
        have hle := dg_le (N := ln u) (a := a) (p := p)
        obtain ⟨q, h1, h2, h3⟩ := lc_ex (u := u) (a := a) (c := dg (ln u) a p - 1) (by omega)
        have hb := tT_bit (u := u) (p := p) (q := q)
        rw [h, Nat.zero_testBit, decide_eq_true h1, h2, h3, decide_eq_true (show dg (ln u) a p - 1 < ld u a p by unfold ld; omega)] at hb
        cases hb
    have := dg_all0 6 hz
    rw [Nat.mod_eq_of_lt hp] at this
    exact this
  · intro h
    subst h
    apply Nat.eq_of_testBit_eq
    intro i
    rw [tT_bit, Nat.zero_testBit]
    have : ld u (le u i) 0 = 0 := by unfold ld dg; rw [Nat.zero_div, Nat.zero_mod]
    rw [this, decide_eq_false (show ¬ lc u (le u i) i < 0 by omega), Bool.and_false]
theorem wT_eq (hw : isW u) (hp : p < spn (ln u) 6) : wW P u (tT u p) = (if p = 0 then 1 else 0) + sm (fun a => vT P u a p) 6 := by
  rw [wW_eq]
  have e0 : (if tT u p = 0 then 1 else 0) = if p = 0 then 1 else 0 := by simp only [tT_0 hp]
  rw [e0]
  congr 1
  have e1 : sm (fun q => if lst P u (tT u p) q then wW P u (tT u p ^^^ 2 ^ q) else 0) u.length = sm (fun q => sm (fun a => if le u q = a then (if lst P u (tT u p) q then wW P u (tT u p ^^^ 2 ^ q) else 0) else 0) 6) u.length := by
    refine sm_c (fun q hq => ?_)
    rw [sm_one (i := le u q) (le_6 hw hq) (fun j _ hne => if_neg (Ne.symm hne)), if_pos rfl]
  rw [e1, sm_swap]
  refine sm_c (fun a ha => ?_)
  unfold vT
  by_cases g : 0 < ld u a p
  · obtain ⟨d1, d2⟩ := dg_dn g
    have d2 : ld u a (p - spn (ln u) a) < ln u a := d2
    have d3 : ld u a p = ld u a (p - spn (ln u) a) + 1 := by
      have := dg_s d2
      rw [Nat.sub_add_cancel d1] at this
      exact this
    obtain ⟨q, h1, h2, h3⟩ := lc_ex d2
    have hT := tT_up d2 h1 h2 h3
    rw [Nat.sub_add_cancel d1] at hT
    have hn := tT_no h3 h2
    rw [sm_one (i := q) h1 (fun j hj hne => ?_), if_pos h2]
    · have hl : lst P u (tT u p) q = decide (sub0 (ahK P u q q) (tT u (p - spn (ln u) a))) := by
        unfold lst
        rw [hT, or_xor hn, or_bit]; simp
      have hx : tT u p ^^^ 2 ^ q = tT u (p - spn (ln u) a) := by rw [hT, or_xor hn]
      rw [hl, hx]
      by_cases gs : sub0 (ahK P u q q) (tT u (p - spn (ln u) a))
      · rw [decide_eq_true gs, if_pos rfl, if_pos ⟨g, q, h1, h2, h3, gs⟩]
      · rw [decide_eq_false gs, if_neg (by decide), if_neg]
        rintro ⟨_, q2, k1, k2, k3, k4⟩
        have : q2 = q := lc_inj k2 h2 (by omega)
        subst this
        exact gs k4
    · by_cases e : le u j = a
      · rw [if_pos e]
        cases gl : lst P u (tT u p) j
        · rfl
        · rw [if_pos rfl]
          unfold lst at gl
          rw [Bool.and_eq_true, tT_bit, Bool.and_eq_true, e] at gl
          have hj1 : lc u a j < ld u a p := of_decide_eq_true gl.1.2
          have hj2 : lc u a j ≠ lc u a q := fun z => hne (lc_inj e h2 z)
          have hjq : j < q := by
            rcases Nat.lt_trichotomy j q with z | z | z
            · exact z
            · exact absurd z hne
            · have := lc_up z h2; omega
          refine wz hw hjq h1 (by rw [e, h2]) _ _ (Nat.lt_succ_self _) ?_ ?_
          · rw [xor_bit, hT, or_bit]; simp [hne]
          · rw [xor_bit, tT_bit, decide_eq_true hj, e, decide_eq_true hj1]; simp
      · rw [if_neg e]
  · rw [if_neg (fun z => g z.1)]
    refine sm_0 (fun q hq => ?_)
    by_cases e : le u q = a
    · rw [if_pos e, if_neg]
      intro z
      unfold lst at z
      rw [Bool.and_eq_true, tT_bit, Bool.and_eq_true, e] at z
      have := of_decide_eq_true z.1.2
      omega
    · rw [if_neg e]
theorem tT_top (hw : isW u) : tT u (spn (ln u) 6 - 1) = 2 ^ u.length - 1 := by
  apply Nat.eq_of_testBit_eq
  intro i
  rw [tT_bit, Nat.testBit_two_pow_sub_one]
  by_cases g : i < u.length
  · have h1 : ld u (le u i) (spn (ln u) 6 - 1) = ln u (le u i) := dg_top (le_6 hw g)
    rw [h1, decide_eq_true g, decide_eq_true (show lc u (le u i) i < ln u (le u i) from lc_up g rfl)]; rfl
  · rw [decide_eq_false g]; rfl
/-- what has come to p' when the points below p are through, and p up to j -/
noncomputable def vC (P : Nat → Nat) (u : List Int) (p j p' : Nat) : Nat := (if p' = 0 then 1 else 0) + sm (fun a => if p' - spn (ln u) a < p ∨ (p' - spn (ln u) a = p ∧ a < j) then vT P u a p' else 0) 6
variable {j p' : Nat}
theorem vC_le (hw : isW u) (hp : p' < spn (ln u) 6) : vC P u p j p' ≤ wW P u (tT u p') := by
  rw [wT_eq hw hp]
  unfold vC
  refine Nat.add_le_add_left (sm_le (fun a _ => ?_)) _
  split
  · exact Nat.le_refl _
  · exact Nat.zero_le _
theorem vC_full (hw : isW u) (hp : p' < spn (ln u) 6) (h : p' ≤ p) : vC P u p j p' = wW P u (tT u p') := by
  rw [wT_eq hw hp]
  unfold vC
  congr 1
  refine sm_c (fun a _ => ?_)
  by_cases g : 0 < ld u a p'
  · have h1 := (dg_dn g).1
    have h2 := spn_pos (N := ln u) a
    rw [if_pos (Or.inl (by omega))]
  · have : vT P u a p' = 0 := if_neg (fun z => g z.1)
    rw [this]; split <;> rfl
theorem vC_0 : vC P u 0 0 p' = if p' = 0 then 1 else 0 := by
  unfold vC
  rw [sm_0, Nat.add_zero]
  intro a _
  rw [if_neg (by omega)]
theorem vC_next : vC P u (p + 1) 0 p' = vC P u p 6 p' := by
  unfold vC
  congr 1
  refine sm_c (fun a ha => ?_)
  by_cases g : p' - spn (ln u) a ≤ p
  · rw [if_pos (by omega), if_pos (by omega)]
  · rw [if_neg (by omega), if_neg (by omega)]
theorem vC_skip (h : wW P u (tT u p) = 0) : vC P u (p + 1) 0 p' = vC P u p j p' := by
  rw [vC_next]
  unfold vC
  congr 1
  refine sm_c (fun a ha => ?_)
  by_cases e : p' - spn (ln u) a = p
  · have : vT P u a p' = 0 := by
      unfold vT
      rw [e, h]; split <;> rfl
    rw [this]; split <;> split <;> rfl
  · by_cases g : p' - spn (ln u) a < p
    · rw [if_pos (Or.inl g), if_pos (Or.inl g)]
    · rw [if_neg (by omega), if_neg (by omega)]
theorem vC_put (hj : j < 6) (h : okA P u j p) : vC P u p (j + 1) (p + spn (ln u) j) = vC P u p j (p + spn (ln u) j) + wW P u (tT u p) := by
  unfold vC
  rw [Nat.add_assoc]
  congr 1
  refine sm_1 hj (fun a ha hne => ?_) ?_
  · by_cases g : p + spn (ln u) j - spn (ln u) a < p ∨ (p + spn (ln u) j - spn (ln u) a = p ∧ a < j)
    · rw [if_pos g, if_pos (by omega)]
    · rw [if_neg g, if_neg (by omega)]
  · have e : p + spn (ln u) j - spn (ln u) j = p := by omega
    have d1 : ld u j (p + spn (ln u) j) = ld u j p + 1 := dg_s (okA_n h)
    rw [if_pos (Or.inr ⟨e, by omega⟩), if_neg (by omega), Nat.zero_add]
    unfold vT
    rw [e, if_pos ⟨by omega, h⟩]
theorem vC_other (h : ¬ (okA P u j p ∧ p' = p + spn (ln u) j)) : vC P u p (j + 1) p' = vC P u p j p' := by
  unfold vC
  congr 1
  refine sm_c (fun a ha => ?_)
  by_cases e : a = j
  · subst e
    by_cases g : 0 < ld u a p' ∧ okA P u a (p' - spn (ln u) a)
    · have h1 := (dg_dn g.1).1
      have : p' - spn (ln u) a ≠ p := fun z => by
        rw [z] at g
        exact h ⟨g.2, by omega⟩
      by_cases g : p' - spn (ln u) a < p
      · rw [if_pos (Or.inl g), if_pos (Or.inl g)]
      · rw [if_neg (by omega), if_neg (by omega)]
    · have : vT P u a p' = 0 := if_neg g
      rw [this]; split <;> split <;> rfl
  · by_cases g : p' - spn (ln u) a < p ∨ (p' - spn (ln u) a = p ∧ a < j)
    · rw [if_pos g, if_pos (by omega)]
    · rw [if_neg g, if_neg (by omega)]
end CP
