/-! what is ready -/
abbrev sub0 (s p : Nat) : Prop := s ^^^ (s &&& p) = 0
theorem sub0_iff {s p : Nat} : s ^^^ (s &&& p) = 0 ↔ sub0 s p := Iff.rfl
theorem sub0_bits {s p : Nat} : sub0 s p ↔ ∀ i, s.testBit i = true → p.testBit i = true := by
  constructor
  · intro h i hi
    have := congrArg (fun n => n.testBit i) h
    simp only [Nat.testBit_xor, Nat.testBit_and, hi, Nat.zero_testBit, Bool.true_and] at this
    cases q : p.testBit i
    · rw [q] at this; cases this
    · rfl
  · intro h
    apply Nat.eq_of_testBit_eq
    intro i
    rw [Nat.testBit_xor, Nat.testBit_and, Nat.zero_testBit]
    cases q : s.testBit i
    · rfl
    · rw [h i q]; rfl
theorem or_bit {s a i : Nat} : (s ||| 2 ^ a).testBit i = (s.testBit i || decide (a = i)) := by rw [Nat.testBit_or, Nat.testBit_two_pow]
theorem sub0_or {s a p : Nat} : sub0 (s ||| 2 ^ a) p ↔ sub0 s p ∧ p.testBit a = true := by
  rw [sub0_bits, sub0_bits]
  constructor
  · intro h
    exact ⟨fun i hi => h i (by rw [or_bit, hi]; rfl), h a (by rw [or_bit]; simp)⟩
  · rintro ⟨h1, h2⟩ i hi
    rw [or_bit, Bool.or_eq_true] at hi
    rcases hi with q | q
    · exact h1 i q
    · rw [← of_decide_eq_true q]; exact h2
theorem sub0_0 {p : Nat} : sub0 0 p := sub0_bits.mpr (fun i hi => by rw [Nat.zero_testBit] at hi; cases hi)
theorem tk_erase {ps : Int → Int → Bool} {a : Int} : ∀ {u v : List Int}, tk ps a u = some v → v = u.erase a
  | [], v, h => by simp [tk] at h
  | b :: u, v, h => by
    unfold tk at h
    split at h
    · next hb => cases h; subst hb; simp
    · next hb =>
      split at h
      · cases hu : tk ps a u with
        | none => rw [hu] at h; cases h
        | some u' =>
          rw [hu] at h
          cases h
          rw [List.erase_cons_tail (by simpa using hb), tk_erase hu]
      · cases h
theorem isW_cons {b : Int} {u : List Int} (h : isW (b :: u)) : (0 ≤ b ∧ b < 6) ∧ isW u := ⟨h b List.mem_cons_self, fun a ha => h a (List.mem_cons_of_mem _ ha)⟩
theorem isW_erase {u : List Int} {a : Int} (h : isW u) : isW (u.erase a) := fun b hb => h b (List.mem_of_mem_erase hb)
section RD
variable {P R : Nat → Nat}
theorem fold_bit (ho : lOk P R) {a : Int} (ha : 0 ≤ a ∧ a < 6) : ∀ (u : List Int) (s : Nat × Nat), isW u →
    ((u.foldl (rdyS P) s).2.testBit a.toNat = (s.2.testBit a.toNat || (decide (sub0 s.1 (P a.toNat) ∧ (tk (psL P) a u).isSome = true))))
  | [], s, _ => by simp [tk]
  | b :: u, s, hw => by
    obtain ⟨hb, hw⟩ := isW_cons hw
    rw [List.foldl_cons, fold_bit ho ha u _ hw]
    unfold rdyS
    dsimp only
    by_cases q : b = a
    · subst q
      have hs : ¬ sub0 (s.1 ||| 2 ^ b.toNat) (P b.toNat) := fun z => by
        have := (sub0_or.mp z).2
        rw [ho.2.2.1 _ (by omega)] at this
        cases this
      have e1 : (tk (psL P) b (b :: u)).isSome = true := by simp [tk]
      rw [decide_eq_false (fun z => hs z.1), Bool.or_false, e1]
      by_cases g : s.1 ^^^ (s.1 &&& P b.toNat) = 0
      · rw [if_pos g, or_bit, decide_eq_true rfl, Bool.or_true, decide_eq_true ⟨sub0_iff.mp g, rfl⟩, Bool.or_true]
      · rw [if_neg g, decide_eq_false (fun z => g (sub0_iff.mpr z.1)), Bool.or_false]
    · have e2 : (if s.1 ^^^ (s.1 &&& P b.toNat) = 0 then s.2 ||| 2 ^ b.toNat else s.2).testBit a.toNat = s.2.testBit a.toNat := by
        split
        · rw [or_bit, decide_eq_false (by omega), Bool.or_false]
        · rfl
      rw [e2]
      congr 1
      apply decide_eq_decide.mpr
      rw [sub0_or]
      have hp := psL_bit ho ha hb
      have e3 : tk (psL P) a (b :: u) = if psL P a b then (tk (psL P) a u).map (fun v => b :: v) else none := by
        show (if b = a then _ else _) = _
        rw [if_neg q]
      rw [e3, hp]
      cases (P a.toNat).testBit b.toNat
      · simp
      · simp
theorem rdy_bit (ho : lOk P R) {a : Int} (ha : 0 ≤ a ∧ a < 6) {u : List Int} (hw : isW u) : (rdy P u).testBit a.toNat = (tk (psL P) a u).isSome := by
  unfold rdy
  rw [fold_bit ho ha u _ hw, Nat.zero_testBit, Bool.false_or]
  cases q : (tk (psL P) a u).isSome
  · exact decide_eq_false (fun z => by cases z.2)
  · exact decide_eq_true ⟨sub0_0, rfl⟩
theorem rdy_lt {u : List Int} (hw : isW u) : rdy P u < 64 := by
  have : ∀ (u : List Int) (s : Nat × Nat), isW u → s.1 < 64 ∧ s.2 < 64 → (u.foldl (rdyS P) s).1 < 64 ∧ (u.foldl (rdyS P) s).2 < 64 := by
    intro u
    induction u with
    | nil => intro s _ h; exact h
    | cons b u ih =>
      intro s hw h
      obtain ⟨hb, hw⟩ := isW_cons hw
      exact ih _ hw (rdyS_lt hb h)
  exact (this u (0, 0) hw ⟨by decide, by decide⟩).2
/-- letters of a set taken away, each once -/
def rmv (s : Nat) (u : List Int) : Nat → List Int
  | 0 => u
  | k + 1 => if s.testBit k then (rmv s u k).erase (k : Int) else rmv s u k
def rmF (s : Int → Bool) : List Int → List Int
  | [] => []
  | b :: u => if s b then rmF (fun c => s c && decide (c ≠ b)) u else b :: rmF s u
theorem rmF_cons {s : Int → Bool} {b : Int} {u : List Int} : rmF s (b :: u) = if s b then rmF (fun c => s c && decide (c ≠ b)) u else b :: rmF s u := rfl
theorem rmF_erase {a : Int} : ∀ (u : List Int) (s : Int → Bool), s a = false → rmF (fun c => s c || decide (c = a)) u = (rmF s u).erase a
  | [], s, _ => rfl
  | b :: u, s, ha => by
    rw [rmF_cons, rmF_cons]
    by_cases q : b = a
    · subst q
      have e1 : (s b || decide (b = b)) = true := by simp
      rw [if_pos e1, if_neg (by rw [ha]; decide), List.erase_cons_head]
      congr 1
      funext c
      by_cases g : c = b
      · subst g; simp [ha]
      · simp [g]
    · have e1 : (s b || decide (b = a)) = s b := by simp [q]
      rw [e1]
      cases hs : s b
      · rw [if_neg (by decide), if_neg (by decide), List.erase_cons_tail (by simpa using q), rmF_erase u s ha]
      · rw [if_pos rfl, if_pos rfl, ← rmF_erase u (fun c => s c && decide (c ≠ b)) (by simp [ha])]
        congr 1
        funext c
        by_cases g : c = a
        · have : c ≠ b := fun z => q (z ▸ g)
          simp [g, Ne.symm q]
        · simp [g]
theorem rmF_none : ∀ (u : List Int), rmF (fun _ => false) u = u
  | [] => rfl
  | b :: u => by rw [rmF_cons, if_neg (by decide), rmF_none u]
theorem rmv_F {s : Nat} {u : List Int} : ∀ k, rmv s u k = rmF (fun c => decide (0 ≤ c ∧ c < k) && s.testBit c.toNat) u
  | 0 => by
    have : (fun c : Int => decide (0 ≤ c ∧ c < ((0 : Nat) : Int)) && s.testBit c.toNat) = fun _ => false := by
      funext c
      rw [decide_eq_false (by omega), Bool.false_and]
    rw [this, rmF_none]
    rfl
  | k + 1 => by
    unfold rmv
    rw [rmv_F k]
    split
    · next h =>
      rw [← rmF_erase u _ (by rw [decide_eq_false (by omega), Bool.false_and])]
      congr 1
      funext c
      by_cases g : c = (k : Int)
      · subst g
        simp [h]
        omega
      · by_cases g2 : 0 ≤ c ∧ c < (k : Int)
        · rw [decide_eq_true g2, decide_eq_true (show 0 ≤ c ∧ c < ((k + 1 : Nat) : Int) by omega), decide_eq_false g, Bool.or_false]
        · rw [decide_eq_false g2, decide_eq_false (show ¬ (0 ≤ c ∧ c < ((k + 1 : Nat) : Int)) by omega), decide_eq_false g]; rfl
    · next h =>
      congr 1
      funext c
      by_cases g : c = (k : Int)
      · subst g
        simp [h]
      · by_cases g2 : 0 ≤ c ∧ c < (k : Int)
        · rw [decide_eq_true g2, decide_eq_true (show 0 ≤ c ∧ c < ((k + 1 : Nat) : Int) by omega)]
        · rw [decide_eq_false g2, decide_eq_false (show ¬ (0 ≤ c ∧ c < ((k + 1 : Nat) : Int)) by omega)]
/-- letters at places that aren't ready, those of h stand ahead -/
def nrd (P : Nat → Nat) : Nat → List Int → List Int
  | _, [] => []
  | h, b :: u => if h ^^^ (h &&& P b.toNat) = 0 then nrd P (h ||| 2 ^ b.toNat) u else b :: nrd P (h ||| 2 ^ b.toNat) u
theorem nrd_cons {h : Nat} {b : Int} {u : List Int} : nrd P h (b :: u) = if h ^^^ (h &&& P b.toNat) = 0 then nrd P (h ||| 2 ^ b.toNat) u else b :: nrd P (h ||| 2 ^ b.toNat) u := rfl
theorem rmF_congr : ∀ (u : List Int) {s t : Int → Bool}, (∀ b ∈ u, s b = t b) → rmF s u = rmF t u
  | [], _, _, _ => rfl
  | b :: u, s, t, h => by
    rw [rmF_cons, rmF_cons, h b List.mem_cons_self, rmF_congr u (fun c hc => h c (List.mem_cons_of_mem _ hc)), rmF_congr u (s := fun c => s c && decide (c ≠ b)) (t := fun c => t c && decide (c ≠ b)) (fun c hc => by rw [h c (List.mem_cons_of_mem _ hc)])]
theorem rmF_nrd (ho : lOk P R) : ∀ (u : List Int) (h : Nat), isW u → rmF (fun a => decide (sub0 h (P a.toNat)) && (tk (psL P) a u).isSome) u = nrd P h u
  | [], h, _ => rfl
  | b :: u, h, hw => by
    obtain ⟨hb, hw⟩ := isW_cons hw
    rw [rmF_cons, nrd_cons, ← rmF_nrd ho u _ hw]
    have e1 : (tk (psL P) b (b :: u)).isSome = true := by simp [tk]
    have key : ∀ c ∈ u, c ≠ b → (decide (sub0 h (P c.toNat)) && (tk (psL P) c (b :: u)).isSome) = (decide (sub0 (h ||| 2 ^ b.toNat) (P c.toNat)) && (tk (psL P) c u).isSome) := by
      intro c hc hcb
      have hcl := hw c hc
      have e3 : tk (psL P) c (b :: u) = if psL P c b then (tk (psL P) c u).map (fun v => b :: v) else none := by
        show (if b = c then _ else _) = _
        rw [if_neg (Ne.symm hcb)]
      rw [e3, psL_bit ho hcl hb]
      cases q : (P c.toNat).testBit b.toNat
      · rw [decide_eq_false (p := sub0 (h ||| 2 ^ b.toNat) (P c.toNat)) (fun z => by rw [(sub0_or.mp z).2] at q; cases q)]
        simp
      · rw [if_pos rfl]
        have : decide (sub0 (h ||| 2 ^ b.toNat) (P c.toNat)) = decide (sub0 h (P c.toNat)) := decide_eq_decide.mpr ⟨fun z => (sub0_or.mp z).1, fun z => sub0_or.mpr ⟨z, q⟩⟩
        rw [this]
        simp
    have hbb : decide (sub0 (h ||| 2 ^ b.toNat) (P b.toNat)) = false := decide_eq_false (fun z => by
      have := (sub0_or.mp z).2
      rw [ho.2.2.1 _ (by omega)] at this
      cases this)
    rw [e1, Bool.and_true]
    by_cases g : h ^^^ (h &&& P b.toNat) = 0
    · rw [if_pos g, if_pos (decide_eq_true (sub0_iff.mp g))]
      refine rmF_congr u (fun c hc => ?_)
      by_cases q : c = b
      · subst q
        rw [hbb]; simp
      · rw [decide_eq_true q, Bool.and_true]
        exact key c hc q
    · have ng : ¬ sub0 h (P b.toNat) := fun z => g (sub0_iff.mpr z)
      rw [if_neg g, if_neg (by rw [decide_eq_false ng]; decide)]
      congr 1
      refine rmF_congr u (fun c hc => ?_)
      by_cases q : c = b
      · subst q
        rw [hbb, decide_eq_false ng]; simp
      · exact key c hc q
/-- what is left behind a block -/
def rest (P : Nat → Nat) (u : List Int) : List Int := nrd P 0 u
theorem rmv_rest (ho : lOk P R) {u : List Int} (hw : isW u) : rmv (rdy P u) u 6 = rest P u := by
  rw [rmv_F 6]
  unfold rest
  rw [← rmF_nrd ho u 0 hw]
  refine rmF_congr u (fun c hc => ?_)
  have hcl := hw c hc
  rw [decide_eq_true (show 0 ≤ c ∧ c < ((6 : Nat) : Int) by omega), Bool.true_and, rdy_bit ho hcl hw, decide_eq_true sub0_0, Bool.true_and]
theorem nrd_len : ∀ (u : List Int) (h : Nat), (nrd P h u).length ≤ u.length
  | [], h => Nat.le_refl _
  | b :: u, h => by
    have := nrd_len u (h ||| 2 ^ b.toNat)
    rw [nrd_cons]
    split
    · rw [List.length_cons]; omega
    · rw [List.length_cons, List.length_cons]; omega
theorem rest_len {u : List Int} (h : u ≠ []) : (rest P u).length < u.length := by
  cases u with
  | nil => exact absurd rfl h
  | cons b u =>
    unfold rest
    rw [nrd_cons, if_pos (by simp)]
    have := nrd_len (P := P) u (0 ||| 2 ^ b.toNat)
    rw [List.length_cons]
    omega
theorem rmv_isW {s : Nat} {u : List Int} (hw : isW u) : ∀ k, isW (rmv s u k)
  | 0 => hw
  | k + 1 => by
    unfold rmv
    split
    · exact isW_erase (rmv_isW hw k)
    · exact rmv_isW hw k
theorem rest_isW (ho : lOk P R) {u : List Int} (hw : isW u) : isW (rest P u) := by
  rw [← rmv_rest ho hw]
  exact rmv_isW hw 6
/-- the blocks -/
def blks (P : Nat → Nat) : Nat → List Int → List Int
  | 0, _ => []
  | n + 1, u => if u = [] then [] else (rdy P u : Int) :: blks P n (rest P u)
theorem blks_s {n : Nat} {u : List Int} : blks P (n + 1) u = if u = [] then [] else (rdy P u : Int) :: blks P n (rest P u) := rfl
theorem blks_nil : ∀ n, blks P n [] = []
  | 0 => rfl
  | n + 1 => by rw [blks_s, if_pos rfl]
theorem blks_len : ∀ (n : Nat) (u : List Int), (blks P n u).length ≤ n
  | 0, u => Nat.le_refl _
  | n + 1, u => by
    rw [blks_s]
    split
    · simp
    · have := blks_len n (rest P u)
      rw [List.length_cons]; omega
theorem blks_more : ∀ (n m : Nat) (u : List Int), u.length ≤ n → u.length ≤ m → blks P n u = blks P m u
  | 0, m, u, h1, _ => by
    have : u = [] := List.length_eq_zero_iff.mp (by omega)
    rw [this, blks_nil, blks_nil]
  | n + 1, 0, u, _, h2 => by
    have : u = [] := List.length_eq_zero_iff.mp (by omega)
    rw [this, blks_nil, blks_nil]
  | n + 1, m + 1, u, h1, h2 => by
    rw [blks_s, blks_s]
    by_cases q : u = []
    · rw [if_pos q, if_pos q]
    · rw [if_neg q, if_neg q]
      have := rest_len (P := P) q
      rw [blks_more n m (rest P u) (by omega) (by omega)]
end RD
