/-! what is tied, both ways; the reference's spread -/
section NF
variable {d : Nat} {M M' L : zM} {Q : Int → zW → Prop} {P R : Nat → Nat} {ws : List (List Int)} {tx : List Int} {hs : List zLw} {kp : zKp} {ls : Nat → Option (List Int)} {rf : Nat → Int}
/-- the walk back from p, j places far -/
def bk (P : Nat → Nat) (u : List Int) (p : Nat) : Nat → Nat × Nat
  | 0 => (2 ^ (u.getD p 0).toNat, 0)
  | j + 1 => tdS P (bk P u p j) (u.getD (p - 1 - j) 0)
theorem bk_s {u : List Int} {p j : Nat} : bk P u p (j + 1) = tdS P (bk P u p j) (u.getD (p - 1 - j) 0) := rfl
theorem bk_fold {u : List Int} {p : Nat} (hp : p ≤ u.length) : ∀ (k : Nat) (s : Nat × Nat), k ≤ p → bk P u p (p - k) = s → (u.take k).reverse.foldl (tdS P) s = bk P u p p
  | 0, s, _, h => by rw [← h]; rfl
  | k + 1, s, hk, h => by
    rw [take_succ_getD (by omega), List.reverse_append, List.reverse_singleton, List.singleton_append, List.foldl_cons]
    refine bk_fold hp k _ (by omega) ?_
    rw [show p - k = (p - (k + 1)) + 1 by omega, bk_s, h, show p - 1 - (p - (k + 1)) = k by omega]
/-- q (ahead of p) is tied -/
def tb (P : Nat → Nat) (u : List Int) (p q : Nat) : Prop := ¬ sub0 (bk P u p (p - 1 - q)).1 (P (u.getD q 0).toNat)
theorem bk_mask {u : List Int} {p i : Nat} : ∀ j, j ≤ p → ((bk P u p j).1.testBit i = true ↔ ∃ r, p - j ≤ r ∧ r ≤ p ∧ (r = p ∨ tb P u p r) ∧ (u.getD r 0).toNat = i)
  | 0, _ => by
    constructor
    · intro h
      have h : (2 ^ (u.getD p 0).toNat).testBit i = true := h
      rw [Nat.testBit_two_pow] at h
      exact ⟨p, by omega, by omega, Or.inl rfl, of_decide_eq_true h⟩
    · rintro ⟨r, h1, h2, h3, h4⟩
      have : r = p := by omega
      subst this
      show (2 ^ (u.getD r 0).toNat).testBit i = true
      rw [Nat.testBit_two_pow]; exact decide_eq_true h4
  | j + 1, hj => by
    have ih := bk_mask (u := u) (p := p) (i := i) j (by omega)
    have et : tb P u p (p - 1 - j) ↔ ¬ sub0 (bk P u p j).1 (P (u.getD (p - 1 - j) 0).toNat) := by
      unfold tb
      rw [show p - 1 - (p - 1 - j) = j by omega]
    rw [bk_s]
    unfold tdS
    constructor
    · intro h
      split at h
      · obtain ⟨r, h1, h2, h3, h4⟩ := ih.mp h
        exact ⟨r, by omega, h2, h3, h4⟩
      · next g =>
        dsimp only at h
        rw [or_bit, Bool.or_eq_true] at h
        rcases h with h | h
        · obtain ⟨r, h1, h2, h3, h4⟩ := ih.mp h
          exact ⟨r, by omega, h2, h3, h4⟩
        · exact ⟨p - 1 - j, by omega, by omega, Or.inr (et.mpr g), of_decide_eq_true h⟩
    · rintro ⟨r, h1, h2, h3, h4⟩
      by_cases e : r = p - 1 - j
      · have ht : tb P u p r := by
          rcases h3 with z | z
          · omega
          · exact z
        rw [e] at ht h4
        rw [if_neg (et.mp ht)]
        dsimp only
        rw [or_bit, decide_eq_true h4, Bool.or_true]
      · have old := ih.mpr ⟨r, by omega, h2, h3, h4⟩
        split
        · exact old
        · dsimp only
          rw [or_bit, old]; rfl
theorem nsub {s p : Nat} : ¬ sub0 s p ↔ ∃ i, s.testBit i = true ∧ p.testBit i = false := by
  rw [sub0_bits]
  constructor
  · intro h
    refine Classical.byContradiction (fun z => h (fun i hi => ?_))
    cases q : p.testBit i
    · exact absurd ⟨i, hi, q⟩ z
    · rfl
  · rintro ⟨i, h1, h2⟩ h
    rw [h i h1] at h2
    cases h2
theorem psL_sym (ho : lOk P R) {a b : Int} (ha : 0 ≤ a ∧ a < 6) (hb : 0 ≤ b ∧ b < 6) : psL P a b = psL P b a := by
  rw [psL_bit ho ha hb, psL_bit ho hb ha, ho.2.1 _ _ (by omega) (by omega)]
theorem tb_iff (ho : lOk P R) {u : List Int} (hw : isW u) {p q : Nat} (hp : p < u.length) (hq : q < p) : tb P u p q ↔ ∃ r, q < r ∧ r ≤ p ∧ (r = p ∨ tb P u p r) ∧ dep P u q r := by
  have hql := isW_at hw (show q < u.length by omega)
  have e : tb P u p q ↔ ∃ i, (bk P u p (p - 1 - q)).1.testBit i = true ∧ (P (u.getD q 0).toNat).testBit i = false := nsub
  rw [e]
  constructor
  · rintro ⟨i, h1, h2⟩
    obtain ⟨r, r1, r2, r3, r4⟩ := (bk_mask (p - 1 - q) (by omega)).mp h1
    have hrl := isW_at hw (show r < u.length by omega)
    refine ⟨r, by omega, r2, r3, by omega, ?_⟩
    rw [psL_sym ho hrl hql, psL_bit ho hql hrl, r4]; exact h2
  · rintro ⟨r, r1, r2, r3, r4⟩
    have hrl := isW_at hw (show r < u.length by omega)
    refine ⟨(u.getD r 0).toNat, (bk_mask (p - 1 - q) (by omega)).mpr ⟨r, by omega, r2, r3, rfl⟩, ?_⟩
    have := r4.2
    rw [psL_sym ho hrl hql, psL_bit ho hql hrl] at this
    exact this
theorem bf_tr {u : List Int} : ∀ (p q r : Nat), bf P u r p → dep P u q r → bf P u q p := by
  intro p
  induction p using Nat.strongRecOn with
  | ind p ih =>
    intro q r h1 h2
    rcases bf_iff.mp h1 with h | ⟨s, hs1, hs2⟩
    · exact bf_iff.mpr (Or.inr ⟨r, h, bf_iff.mpr (Or.inl h2)⟩)
    · exact bf_iff.mpr (Or.inr ⟨s, hs1, ih s hs1.1 q r hs2 h2⟩)
theorem tb_bf (ho : lOk P R) {u : List Int} (hw : isW u) {p : Nat} (hp : p < u.length) : ∀ (n q : Nat), q + n = p → 0 < n → tb P u p q → bf P u q p := by
  intro n
  induction n using Nat.strongRecOn with
  | ind n ih =>
    intro q hq hn h
    obtain ⟨r, r1, r2, r3, r4⟩ := (tb_iff ho hw hp (by omega)).mp h
    by_cases e : r = p
    · subst e; exact bf_iff.mpr (Or.inl r4)
    · have ht : tb P u p r := by
        rcases r3 with z | z
        · exact absurd z e
        · exact z
      exact bf_tr p q r (ih (p - r) (by omega) r (by omega) (by omega) ht) r4
theorem tb_tr (ho : lOk P R) {u : List Int} (hw : isW u) {p r : Nat} (hp : p < u.length) (hr : r < p) (h : tb P u p r) : ∀ (n q : Nat), q + n = r → 0 < n → tb P u r q → tb P u p q := by
  intro n
  induction n using Nat.strongRecOn with
  | ind n ih =>
    intro q hq hn hqt
    obtain ⟨s, s1, s2, s3, s4⟩ := (tb_iff ho hw (by omega) (by omega)).mp hqt
    refine (tb_iff ho hw hp (by omega)).mpr ⟨s, s1, by omega, Or.inr ?_, s4⟩
    by_cases e : s = r
    · rw [e]; exact h
    · have ht : tb P u r s := by
        rcases s3 with z | z
        · exact absurd z e
        · exact z
      exact ih (r - s) (by omega) s (by omega) (by omega) ht
theorem bf_tb (ho : lOk P R) {u : List Int} (hw : isW u) : ∀ (p q : Nat), p < u.length → bf P u q p → tb P u p q := by
  intro p
  induction p using Nat.strongRecOn with
  | ind p ih =>
    intro q hp h
    have hq := bf_lt h
    rcases bf_iff.mp h with h | ⟨r, h1, h2⟩
    · exact (tb_iff ho hw hp hq).mpr ⟨p, hq, by omega, Or.inl rfl, h⟩
    · have hr := h1.1
      have hqr := bf_lt h2
      have t1 := ih r hr q (by omega) h2
      have t2 : tb P u p r := (tb_iff ho hw hp hr).mpr ⟨p, hr, by omega, Or.inl rfl, h1⟩
      exact tb_tr ho hw hp hr t2 (r - q) q (by omega) (by omega) t1
/-- counted from behind -/
def cntB (f : Nat → Bool) (p : Nat) : Nat → Nat
  | 0 => 0
  | j + 1 => cntB f p j + (if f (p - 1 - j) then 1 else 0)
theorem cntB_cnt {f : Nat → Bool} {p : Nat} : ∀ j, j ≤ p → cntB f p j + cnt f (p - j) = cnt f p
  | 0, _ => by simp [cntB]
  | j + 1, hj => by
    have ih := cntB_cnt (f := f) (p := p) j (by omega)
    rw [show p - j = (p - (j + 1)) + 1 by omega] at ih
    show cntB f p j + _ + _ = _
    have e : cnt f (p - (j + 1) + 1) = cnt f (p - (j + 1)) + (if f (p - (j + 1)) then 1 else 0) := rfl
    rw [e] at ih
    rw [show p - 1 - j = p - (j + 1) by omega]
    omega
theorem bk_cnt (ho : lOk P R) {u : List Int} (hw : isW u) {p : Nat} (hp : p < u.length) : ∀ j, j ≤ p → (bk P u p j).2 = cntB (fun q => (aL P u (p + 1) p).testBit q) p j
  | 0, _ => rfl
  | j + 1, hj => by
    have ih := bk_cnt ho hw hp j (by omega)
    have et : tb P u p (p - 1 - j) ↔ ¬ sub0 (bk P u p j).1 (P (u.getD (p - 1 - j) 0).toNat) := by
      unfold tb
      rw [show p - 1 - (p - 1 - j) = j by omega]
    show (tdS P (bk P u p j) (u.getD (p - 1 - j) 0)).2 = cntB _ p j + (if (aL P u (p + 1) p).testBit (p - 1 - j) = true then 1 else 0)
    rw [← ih]
    unfold tdS
    by_cases g : sub0 (bk P u p j).1 (P (u.getD (p - 1 - j) 0).toNat)
    · rw [if_pos g, if_neg (show ¬ (aL P u (p + 1) p).testBit (p - 1 - j) = true from fun z => et.mp (bf_tb ho hw p (p - 1 - j) hp z) g)]
      rfl
    · rw [if_neg g, if_pos (show (aL P u (p + 1) p).testBit (p - 1 - j) = true from tb_bf ho hw hp (j + 1) (p - 1 - j) (by omega) (by omega) (et.mpr g))]
theorem cnt_out {f : Nat → Bool} {p : Nat} (h : ∀ q, p ≤ q → f q = false) : ∀ m, cnt f (p + m) = cnt f p
  | 0 => rfl
  | m + 1 => by
    have := cnt_n (p := f) (h (p + m) (by omega))
    rw [show p + (m + 1) = p + m + 1 by omega, this]
    exact cnt_out h m
theorem tied_back (ho : lOk P R) {u : List Int} (hw : isW u) {p : Nat} (hp : p < u.length) : tdN P (u.getD p 0) (u.take p).reverse = cnt (fun q => (aL P u (p + 1) p).testBit q) u.length := by
  unfold tdN
  rw [bk_fold (P := P) (p := p) (by omega) p (2 ^ (u.getD p 0).toNat, 0) (by omega) (by rw [Nat.sub_self]; rfl), bk_cnt ho hw hp p (by omega)]
  have h1 := cntB_cnt (f := fun q => (aL P u (p + 1) p).testBit q) (p := p) p (by omega)
  rw [Nat.sub_self] at h1
  have h2 := cnt_out (f := fun q => (aL P u (p + 1) p).testBit q) (p := p) (fun q hq => Nat.testBit_lt_two_pow (Nat.lt_of_lt_of_le (aL_lt (p + 1) p (by omega)) (Nat.pow_le_pow_right (by omega) hq))) (u.length - p)
  rw [show p + (u.length - p) = u.length by omega] at h2
  simp only [cnt] at h1
  omega
/-! forward -/
def fw (P : Nat → Nat) (u : List Int) (p : Nat) : Nat → Nat × Nat
  | 0 => (2 ^ (u.getD p 0).toNat, 0)
  | j + 1 => tdS P (fw P u p j) (u.getD (p + 1 + j) 0)
theorem fw_fold {u : List Int} {p : Nat} : ∀ (v : List Int) (k : Nat) (s : Nat × Nat), u.drop (p + 1 + k) = v → fw P u p k = s → p + 1 + k ≤ u.length → v.foldl (tdS P) s = fw P u p (u.length - p - 1)
  | [], k, s, hd, h, hk => by
    have : u.length ≤ p + 1 + k := by have := congrArg List.length hd; simp at this; omega
    rw [← h, show u.length - p - 1 = k by omega]; rfl
  | a :: v, k, s, hd, h, hk => by
    obtain ⟨h1, h2, h3⟩ := drop_cons hd
    rw [List.foldl_cons]
    refine fw_fold v (k + 1) _ (by rw [← h2]; rfl) ?_ (by omega)
    show tdS P (fw P u p k) (u.getD (p + 1 + k) 0) = _
    rw [h, h1]
def tf (P : Nat → Nat) (u : List Int) (p q : Nat) : Prop := ¬ sub0 (fw P u p (q - p - 1)).1 (P (u.getD q 0).toNat)
theorem fw_mask {u : List Int} {p i : Nat} : ∀ j, ((fw P u p j).1.testBit i = true ↔ ∃ r, p ≤ r ∧ r ≤ p + j ∧ (r = p ∨ tf P u p r) ∧ (u.getD r 0).toNat = i)
  | 0 => by
    constructor
    · intro h
      have h : (2 ^ (u.getD p 0).toNat).testBit i = true := h
      rw [Nat.testBit_two_pow] at h
      exact ⟨p, by omega, by omega, Or.inl rfl, of_decide_eq_true h⟩
    · rintro ⟨r, h1, h2, h3, h4⟩
      have : r = p := by omega
      subst this
      show (2 ^ (u.getD r 0).toNat).testBit i = true
      rw [Nat.testBit_two_pow]; exact decide_eq_true h4
  | j + 1 => by
    have ih := fw_mask (u := u) (p := p) (i := i) j
    have et : tf P u p (p + 1 + j) ↔ ¬ sub0 (fw P u p j).1 (P (u.getD (p + 1 + j) 0).toNat) := by
      unfold tf
      rw [show p + 1 + j - p - 1 = j by omega]
    show (tdS P (fw P u p j) (u.getD (p + 1 + j) 0)).1.testBit i = true ↔ _
    unfold tdS
    constructor
    · intro h
      split at h
      · obtain ⟨r, h1, h2, h3, h4⟩ := ih.mp h
        exact ⟨r, by omega, by omega, h3, h4⟩
      · next g =>
        dsimp only at h
        rw [or_bit, Bool.or_eq_true] at h
        rcases h with h | h
        · obtain ⟨r, h1, h2, h3, h4⟩ := ih.mp h
          exact ⟨r, by omega, by omega, h3, h4⟩
        · exact ⟨p + 1 + j, by omega, by omega, Or.inr (et.mpr g), of_decide_eq_true h⟩
    · rintro ⟨r, h1, h2, h3, h4⟩
      by_cases e : r = p + 1 + j
      · have ht : tf P u p r := by
          rcases h3 with z | z
          · omega
          · exact z
        rw [e] at ht h4
        rw [if_neg (et.mp ht)]
        dsimp only
        rw [or_bit, decide_eq_true h4, Bool.or_true]
      · have old := ih.mpr ⟨r, by omega, by omega, h3, h4⟩
        split
        · exact old
        · dsimp only
          rw [or_bit, old]; rfl
theorem tf_iff (ho : lOk P R) {u : List Int} (hw : isW u) {p q : Nat} (hq : q < u.length) (hpq : p < q) : tf P u p q ↔ ∃ r, p ≤ r ∧ (r = p ∨ tf P u p r) ∧ dep P u r q := by
  have hql := isW_at hw hq
  have e : tf P u p q ↔ ∃ i, (fw P u p (q - p - 1)).1.testBit i = true ∧ (P (u.getD q 0).toNat).testBit i = false := nsub
  rw [e]
  constructor
  · rintro ⟨i, h1, h2⟩
    obtain ⟨r, r1, r2, r3, r4⟩ := (fw_mask (q - p - 1)).mp h1
    have hrl := isW_at hw (show r < u.length by omega)
    refine ⟨r, r1, r3, by omega, ?_⟩
    rw [psL_bit ho hql hrl, r4]; exact h2
  · rintro ⟨r, r1, r3, r4⟩
    have hr := r4.1
    have hrl := isW_at hw (show r < u.length by omega)
    refine ⟨(u.getD r 0).toNat, (fw_mask (q - p - 1)).mpr ⟨r, r1, by omega, r3, rfl⟩, ?_⟩
    have := r4.2
    rw [psL_bit ho hql hrl] at this
    exact this
theorem tf_bf (ho : lOk P R) {u : List Int} (hw : isW u) {p : Nat} : ∀ q, p < q → q < u.length → (tf P u p q ↔ bf P u p q) := by
  intro q
  induction q using Nat.strongRecOn with
  | ind q ih =>
    intro hpq hq
    rw [tf_iff ho hw hq hpq, bf_iff]
    constructor
    · rintro ⟨r, r1, r2, r3⟩
      by_cases e : r = p
      · subst e; exact Or.inl r3
      · have hr := r3.1
        have ht : tf P u p r := by
          rcases r2 with z | z
          · exact absurd z e
          · exact z
        exact Or.inr ⟨r, r3, (ih r hr (by omega) (by omega)).mp ht⟩
    · rintro (h | ⟨r, h1, h2⟩)
      · exact ⟨p, by omega, Or.inl rfl, h⟩
      · have hr := h1.1
        have hpr := bf_lt h2
        exact ⟨r, by omega, Or.inr ((ih r hr hpr (by omega)).mpr h2), h1⟩
theorem fw_cnt (ho : lOk P R) {u : List Int} (hw : isW u) {p : Nat} : ∀ j, p + 1 + j ≤ u.length → (fw P u p j).2 = cnt (fun q => (aL P u (q + 1) q).testBit p) (p + 1 + j)
  | 0, _ => by
    have : ∀ k, k ≤ p + 1 → cnt (fun q => (aL P u (q + 1) q).testBit p) k = 0 := by
      intro k
      induction k with
      | zero => intro _; rfl
      | succ k ih =>
        intro hk
        rw [cnt_n, ih (by omega)]
        exact Nat.testBit_lt_two_pow (Nat.lt_of_lt_of_le (aL_lt (k + 1) k (by omega)) (Nat.pow_le_pow_right (by omega) (by omega)))
    rw [Nat.add_zero, this (p + 1) (by omega)]
    rfl
  | j + 1, hj => by
    have ih := fw_cnt (p := p) ho hw j (by omega)
    have et : tf P u p (p + 1 + j) ↔ ¬ sub0 (fw P u p j).1 (P (u.getD (p + 1 + j) 0).toNat) := by
      unfold tf
      rw [show p + 1 + j - p - 1 = j by omega]
    show (tdS P (fw P u p j) (u.getD (p + 1 + j) 0)).2 = cnt _ (p + 1 + j) + (if (aL P u (p + 1 + j + 1) (p + 1 + j)).testBit p = true then 1 else 0)
    rw [← ih]
    unfold tdS
    by_cases g : sub0 (fw P u p j).1 (P (u.getD (p + 1 + j) 0).toNat)
    · rw [if_pos g, if_neg (show ¬ (aL P u (p + 1 + j + 1) (p + 1 + j)).testBit p = true from fun z => et.mp ((tf_bf ho hw (p + 1 + j) (by omega) (by omega)).mpr z) g)]
      rfl
    · rw [if_neg g, if_pos (show (aL P u (p + 1 + j + 1) (p + 1 + j)).testBit p = true from (tf_bf ho hw (p + 1 + j) (by omega) (by omega)).mp (et.mpr g))]
theorem tied_on (ho : lOk P R) {u : List Int} (hw : isW u) {p : Nat} (hp : p < u.length) : tdN P (u.getD p 0) (u.drop (p + 1)) = cnt (fun q => (aL P u (q + 1) q).testBit p) u.length := by
  unfold tdN
  rw [fw_fold (P := P) (p := p) (u.drop (p + 1)) 0 (2 ^ (u.getD p 0).toNat, 0) rfl rfl (by omega), fw_cnt ho hw _ (by omega), show p + 1 + (u.length - p - 1) = u.length by omega]
end NF
