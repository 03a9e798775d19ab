/-! contracts of Laws -/
/-- the Laws at ℓ: P which pass (bits), R the ranks -/
def lIs (M : zM) (l : Nat) (P R : Nat → Nat) : Prop := ∀ a, a < 6 → M (l + 1) a = (P a : Int) ∧ M (l + 2) a = (R a : Int)
def lOk (P R : Nat → Nat) : Prop := (∀ a, a < 6 → P a < 64) ∧ (∀ a b, a < 6 → b < 6 → (P a).testBit b = (P b).testBit a) ∧ (∀ a, a < 6 → (P a).testBit a = false) ∧ (∀ a, a < 6 → R a < 6) ∧ ∀ a b, a < 6 → b < 6 → R a = R b → a = b
/-- nothing but the Laws at l has changed -/
def lFr (M M' : zM) (l : Nat) : Prop := ∀ k, k ≠ l + 1 → k ≠ l + 2 → M' k = M k
theorem lFr.rf {M : zM} {l : Nat} : lFr M M l := fun _ _ _ => rfl
/-- a and b pass -/
def psL (P : Nat → Nat) (a b : Int) : Bool := decide (a ≠ b) && (P a.toNat).testBit b.toNat
/-- a goes ahead of b -/
def ltL (R : Nat → Nat) (a b : Int) : Bool := decide (R a.toNat < R b.toNat ∨ R a.toNat = R b.toNat ∧ a < b)
theorem psL_irr (P : Nat → Nat) (x : Int) : psL P x x = false := by simp [psL]
theorem ltL_tr (R : Nat → Nat) (a b c : Int) (h1 : ltL R a b = true) (h2 : ltL R b c = true) : ltL R a c = true := by
  unfold ltL at *
  have h1 := of_decide_eq_true h1
  have h2 := of_decide_eq_true h2
  exact decide_eq_true (by omega)
theorem ltL_to (R : Nat → Nat) (a b : Int) (h : a ≠ b) : ltL R a b = true ∨ ltL R b a = true := by
  unfold ltL
  by_cases q : R a.toNat < R b.toNat ∨ R a.toNat = R b.toNat ∧ a < b
  · exact Or.inl (decide_eq_true q)
  · exact Or.inr (decide_eq_true (by omega))
theorem ltL_as (R : Nat → Nat) (a b : Int) (h : ltL R a b = true) : ¬ ltL R b a = true := by
  unfold ltL at *
  have h := of_decide_eq_true h
  intro q
  have q := of_decide_eq_true q
  omega
section LA
variable {d : Nat} {M L : zM} {Q : Int → zW → Prop} {l o : Nat} {P R P' R' : Nat → Nat} {a b : Int}
theorem zLaw_ln (h : zLaw l) : zln SH (l + 1) = 6 ∧ zln SH (l + 2) = 6 := h.2.2.2.2.2
theorem e_lt_notTwoLetters (h : Q (if 0 ≤ a ∧ a < 6 ∧ 0 ≤ b ∧ b < 6 ∧ a ≠ b then 0 else 1) (SH, M, L)) : zEv (d + 2) m_lt_notTwoLetters [zI a, zI b] (SH, M, L) Q := by
  refine b_lt_notTwoLetters (g_lt_notTwoLetters_0 (e_lt_noLetter (g_lt_notTwoLetters_4 ?_)))
  by_cases q : 0 ≤ a ∧ a < 6
  · rw [if_pos q]
    refine zif_t rfl (e_lt_noLetter (g_lt_notTwoLetters_11 ?_))
    by_cases q2 : 0 ≤ b ∧ b < 6
    · rw [if_pos q2]
      refine zif_t rfl (zif_c (fun q3 => ?_) (fun q3 => ?_))
      · rw [if_neg (by omega)] at h; exact h
      · rw [if_pos (by omega)] at h; exact h
    · rw [if_neg q2]
      refine zif_f (by decide) ?_
      rw [if_neg (by omega)] at h; exact h
  · rw [if_neg q]
    refine zif_f (by decide) ?_
    rw [if_neg (by omega)] at h; exact h
theorem e_la_passedBy (hl : zLaw l) (hu : lIs M l P R) (ha : 0 ≤ a ∧ a < 6) (h : Q (P a.toNat : Int) (SH, M, L)) : zEv (d + 2) m_la_passedBy [zR l, zI a] (SH, M, L) Q := by
  have hn := zLaw_ln hl
  refine b_la_passedBy (g_la_passedBy_0 hl (e_lt_noLetter (g_la_passedBy_4 hl ?_)))
  rw [if_pos ha, (hu a.toNat (by omega)).1]
  exact zif_t rfl (zck_i ⟨ha.1, by omega⟩ h)
theorem e_la_rankOf (hl : zLaw l) (hu : lIs M l P R) (ha : 0 ≤ a ∧ a < 6) (h : Q (R a.toNat : Int) (SH, M, L)) : zEv (d + 2) m_la_rankOf [zR l, zI a] (SH, M, L) Q := by
  have hn := zLaw_ln hl
  refine b_la_rankOf (g_la_rankOf_0 hl (e_lt_noLetter (g_la_rankOf_4 hl ?_)))
  rw [if_pos ha, (hu a.toNat (by omega)).2]
  exact zif_t rfl (zck_i ⟨ha.1, by omega⟩ h)
theorem psL_bit (ho : lOk P R) (ha : 0 ≤ a ∧ a < 6) (hb : 0 ≤ b ∧ b < 6) : psL P a b = (P a.toNat).testBit b.toNat := by
  unfold psL
  by_cases q : a = b
  · subst q; rw [ho.2.2.1 _ (by omega)]; simp
  · simp [q]
theorem e_la_letPass (hl : zLaw l) (hu : lIs M l P R) (ho : lOk P R) (ha : 0 ≤ a ∧ a < 6) (hb : 0 ≤ b ∧ b < 6) (h : Q (if psL P a b then 1 else 0) (SH, M, L)) : zEv (d + 3) m_la_letPass [zR l, zI a, zI b] (SH, M, L) Q := by
  refine b_la_letPass (g_la_letPass_0 hl (e_la_passedBy hl hu ha (g_la_letPass_5 hl ?_)))
  have hp := ho.1 a.toNat (by omega)
  have e := zbit_nat (a := P a.toNat) (k := b.toNat) (by omega) (by omega)
  rw [Int.toNat_of_nonneg hb.1] at e
  rw [psL_bit ho ha hb] at h
  rw [e]
  cases q : (P a.toNat).testBit b.toNat
  · rw [q] at h
    exact zif_f (by decide) h
  · rw [q] at h
    exact zif_t (by decide) h
theorem la_copy_loop (hl : zLaw l) (ho : zLaw o) (hne : l ≠ o) (hap : l + 1 ≠ o + 2) (hap2 : l + 2 ≠ o + 1) (hu : lIs M o P R) (h : ∀ M', lIs M' l P R → lFr M M' l → Q 0 (SH, M', L)) :
    ∀ (n k : Nat) (Mk : zM), k + n = 6 → (∀ a, a < k → Mk (l + 1) a = (P a : Int) ∧ Mk (l + 2) a = (R a : Int)) → lFr M Mk l → zEx (d + 1) m_la_copy zb0 Q 2 ([zR l, zR o, zI (k : Int)], [], SH, Mk, L) := by
  have hn := zLaw_ln hl
  have hn2 := zLaw_ln ho
  intro n
  induction n with
  | zero =>
    intro k Mk hk h1 h2
    exact g_la_copy_2 hl ho (zif_f (by omega) (h Mk (fun a ha => h1 a (by omega)) h2))
  | succ n ih =>
    intro k Mk hk h1 h2
    refine g_la_copy_2 hl ho (zif_t (by omega) (zck_i ⟨by omega, by omega⟩ (zck_i ⟨by omega, by omega⟩ (zck_i ⟨by omega, by omega⟩ (zck_i ⟨by omega, by omega⟩ ?_)))))
    rw [zwr_id (by omega) (by omega), Int.toNat_natCast]
    rw [show ((k : Int) + 1) = ((k + 1 : Nat) : Int) by omega]
    refine ih (k + 1) _ (by omega) (fun a ha => ?_) (fun c hc1 hc2 => ?_)
    · constructor
      · rw [zmu_k (by omega)]
        by_cases q : a = k
        · subst q
          rw [zmu_s, h2 (o + 1) (by omega) (by omega)]
          exact (hu a (by omega)).1
        · rw [zmu_j q]; exact (h1 a (by omega)).1
      · by_cases q : a = k
        · subst q
          rw [zmu_s, zmu_k (by omega), h2 (o + 2) (by omega) (by omega)]
          exact (hu a (by omega)).2
        · rw [zmu_j q, zmu_k (by omega)]; exact (h1 a (by omega)).2
    · rw [zmu_kf hc2, zmu_kf hc1]; exact h2 c hc1 hc2
theorem e_la_copy (hl : zLaw l) (ho : zLaw o) (hne : l ≠ o) (hap : l + 1 ≠ o + 2) (hap2 : l + 2 ≠ o + 1) (hu : lIs M o P R) (h : ∀ M', lIs M' l P R → lFr M M' l → Q 0 (SH, M', L)) : zEv (d + 1) m_la_copy [zR l, zR o] (SH, M, L) Q :=
  b_la_copy (g_la_copy_0 hl ho (by simpa using la_copy_loop (d := d) hl ho hne hap hap2 hu h 6 0 M (by omega) (fun a ha => by omega) lFr.rf))
/-- the ready letters, as they are counted -/
def rdyS (P : Nat → Nat) (s : Nat × Nat) (a : Int) : Nat × Nat := (s.1 ||| 2 ^ a.toNat, if s.1 ^^^ (s.1 &&& P a.toNat) = 0 then s.2 ||| 2 ^ a.toNat else s.2)
def rdy (P : Nat → Nat) (u : List Int) : Nat := (u.foldl (rdyS P) (0, 0)).2
theorem rdyS_lt {s : Nat × Nat} (ha : 0 ≤ a ∧ a < 6) (h : s.1 < 64 ∧ s.2 < 64) : (rdyS P s a).1 < 64 ∧ (rdyS P s a).2 < 64 := by
  have h2 : 2 ^ a.toNat < 2 ^ 6 := Nat.pow_lt_pow_right (by omega) (by omega)
  unfold rdyS
  refine ⟨Nat.or_lt_two_pow (n := 6) (by omega) h2, ?_⟩
  dsimp only
  split
  · exact Nat.or_lt_two_pow (n := 6) (by omega) h2
  · exact h.2
theorem la_ready_loop {r : Nat} {u : List Int} {v5 : zV} (hl : zLaw l) (hr : zRow r) (hu : lIs M l P R) (hp : ∀ a, a < 6 → P a < 64) (hv : rIs M r u) (hw : isW u) (h : Q (rdy P u : Int) (SH, M, L)) :
    ∀ (u' : List Int) (k : Nat) (s : Nat × Nat) (v5 : zV), u.drop k = u' → k ≤ u.length → s.1 < 64 ∧ s.2 < 64 → (u'.foldl (rdyS P) s).2 = rdy P u → zEx (d + 3) m_la_readyLetters zb0 Q 7 ([zR l, zR r, zI (s.1 : Int), zI (s.2 : Int), zI (k : Int), v5], [], SH, M, L) := by
  have hc := zRow_cap hr
  have hul := hv.2.2
  intro u'
  induction u' with
  | nil =>
    intro k s v5 hd hk hs hp2
    have : u.length ≤ k := by have := congrArg List.length hd; simp at this; omega
    refine g_la_readyLetters_7 hl hr (e_ro_size hr hv (g_la_readyLetters_13 hl hr (zif_f (by omega) ?_)))
    have hp2 : s.2 = rdy P u := hp2
    rw [hp2]; exact h
  | cons a u' ih =>
    intro k s v5 hd hk hs hp2
    obtain ⟨h1, h2, h3⟩ := drop_cons hd
    have ha : 0 ≤ a ∧ a < 6 := by rw [← h1]; exact isW_at hw (by omega)
    have h2p : 2 ^ a.toNat < 2 ^ 6 := Nat.pow_lt_pow_right (by omega) (by omega)
    have hpa := hp a.toNat (by omega)
    refine g_la_readyLetters_7 hl hr (e_ro_size hr hv (g_la_readyLetters_13 hl hr (zif_t (by omega) (e_ro_get hr hv ?_))))
    rw [rget_in (by omega), Int.toNat_natCast, h1]
    refine g_la_readyLetters_22 hl hr (e_la_passedBy hl hu ha (g_la_readyLetters_31 hl hr ?_))
    have e1 : zshl 1 a = ((2 ^ a.toNat : Nat) : Int) := by
      have := zshl_nat (a := 1) (k := a.toNat) (by omega) (by omega)
      rw [Int.toNat_of_nonneg ha.1, Nat.one_mul] at this
      exact this
    rw [e1, zandn_nat (by omega) (by omega), zor_nat (by omega) (by omega), zor_nat (by omega) (by omega), zwr_id (by omega) (by omega)]
    have e := ih (k + 1) (rdyS P s a) (zI a) h2 (by omega) (rdyS_lt ha hs) hp2
    unfold rdyS at e
    refine zif_c (fun q => ?_) (fun q => ?_)
    · rw [if_pos (by omega)] at e
      simpa using e
    · rw [if_neg (by omega)] at e
      simpa using e
theorem e_la_readyLetters {r : Nat} {u : List Int} (hl : zLaw l) (hr : zRow r) (hu : lIs M l P R) (hp : ∀ a, a < 6 → P a < 64) (hv : rIs M r u) (hw : isW u) (h : Q (rdy P u : Int) (SH, M, L)) : zEv (d + 3) m_la_readyLetters [zR l, zR r] (SH, M, L) Q :=
  b_la_readyLetters (g_la_readyLetters_0 hl hr (by simpa using la_ready_loop (d := d) (v5 := zN) hl hr hu hp hv hw h u 0 (0, 0) zN rfl (by omega) ⟨by decide, by decide⟩ rfl))
end LA
