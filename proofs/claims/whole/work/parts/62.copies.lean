/-! copies: how many orders -/
/-- a sum -/
def sm (f : Nat → Nat) : Nat → Nat
  | 0 => 0
  | k + 1 => sm f k + f k
theorem sm_c {f g : Nat → Nat} : ∀ {k : Nat}, (∀ i, i < k → f i = g i) → sm f k = sm g k
  | 0, _ => rfl
  | k + 1, h => by
    show sm f k + f k = sm g k + g k
    rw [sm_c (fun i hi => h i (by omega)), h k (by omega)]
theorem sm_le {f g : Nat → Nat} : ∀ {k : Nat}, (∀ i, i < k → f i ≤ g i) → sm f k ≤ sm g k
  | 0, _ => Nat.le_refl _
  | k + 1, h => Nat.add_le_add (sm_le (fun i hi => h i (by omega))) (h k (by omega))
theorem sm_b {f : Nat → Nat} {b : Nat} : ∀ {k : Nat}, (∀ i, i < k → f i ≤ b) → sm f k ≤ k * b
  | 0, _ => by simp [sm]
  | k + 1, h => by
    have h1 := sm_b (f := f) (b := b) (k := k) (fun i hi => h i (by omega))
    have h2 := h k (by omega)
    show sm f k + f k ≤ _
    rw [Nat.add_mul, Nat.one_mul]
    omega
theorem sm_0 {f : Nat → Nat} : ∀ {k : Nat}, (∀ i, i < k → f i = 0) → sm f k = 0
  | 0, _ => rfl
  | k + 1, h => by
    show sm f k + f k = 0
    rw [sm_0 (fun i hi => h i (by omega)), h k (by omega)]
/-- one summand changes -/
theorem sm_1 {f g : Nat → Nat} {i c : Nat} : ∀ {k : Nat}, i < k → (∀ j, j < k → j ≠ i → f j = g j) → f i = g i + c → sm f k = sm g k + c
  | 0, h, _, _ => by omega
  | k + 1, h, h1, h2 => by
    show sm f k + f k = sm g k + g k + c
    by_cases e : i = k
    · subst e
      rw [sm_c (fun j hj => h1 j (by omega) (by omega)), h2]
      omega
    · rw [sm_1 (i := i) (c := c) (by omega) (fun j hj hne => h1 j (by omega) hne) h2, h1 k (by omega) (Ne.symm e)]
      omega
theorem xor_bit {s p i : Nat} : (s ^^^ 2 ^ p).testBit i = (s.testBit i ^^ decide (p = i)) := by rw [Nat.testBit_xor, Nat.testBit_two_pow]
theorem xor_or {s p : Nat} (h : s.testBit p = true) : (s ^^^ 2 ^ p) ||| 2 ^ p = s := by
  apply Nat.eq_of_testBit_eq
  intro i
  rw [or_bit, xor_bit]
  by_cases e : p = i
  · subst e; rw [h]; simp
  · simp [e]
theorem or_xor {s p : Nat} (h : s.testBit p = false) : (s ||| 2 ^ p) ^^^ 2 ^ p = s := by
  apply Nat.eq_of_testBit_eq
  intro i
  rw [xor_bit, or_bit]
  by_cases e : p = i
  · subst e; rw [h]; simp
  · simp [e]
theorem xor_lt {s p : Nat} (h : s.testBit p = true) : s ^^^ 2 ^ p < s := by
  have h1 : s ^^^ 2 ^ p ≤ (s ^^^ 2 ^ p) ||| 2 ^ p := Nat.left_le_or
  rw [xor_or h] at h1
  rcases Nat.lt_or_ge (s ^^^ 2 ^ p) s with q | q
  · exact q
  · have : s ^^^ 2 ^ p = s := by omega
    have := congrArg (fun n => n.testBit p) this
    simp only [xor_bit, h] at this
    simp at this
section CO
variable {d : Nat} {M M' L : zM} {Q : Int → zW → Prop} {P R : Nat → Nat} {ws : List (List Int)} {tx : List Int} {hs : List zLw} {kp : zKp} {ls : Nat → Option (List Int)} {rf : Nat → Int} {u : List Int}
/-- p may be the last of the set s -/
def lst (P : Nat → Nat) (u : List Int) (s p : Nat) : Bool := s.testBit p && decide (sub0 (ahK P u p p) (s ^^^ 2 ^ p))
/-- in how many orders the places of a set can be taken -/
def wF (P : Nat → Nat) (u : List Int) : Nat → Nat → Nat
  | 0 => fun _ => 0
  | k + 1 => fun s => if s = k then (if s = 0 then 1 else 0) + sm (fun p => if lst P u s p then wF P u k (s ^^^ 2 ^ p) else 0) u.length else wF P u k s
def wW (P : Nat → Nat) (u : List Int) (s : Nat) : Nat := wF P u (s + 1) s
theorem wF_at {s : Nat} : ∀ k, s < k → wF P u k s = wW P u s
  | 0, h => by omega
  | k + 1, h => by
    by_cases e : s = k
    · subst e; rfl
    · show (if s = k then _ else wF P u k s) = _
      rw [if_neg e]; exact wF_at k (by omega)
theorem wW_eq (s : Nat) : wW P u s = (if s = 0 then 1 else 0) + sm (fun p => if lst P u s p then wW P u (s ^^^ 2 ^ p) else 0) u.length := by
  show (if s = s then _ else _) = _
  rw [if_pos rfl]
  congr 1
  refine sm_c (fun p _ => ?_)
  by_cases g : lst P u s p = true
  · rw [if_pos g, if_pos g]
    unfold lst at g
    rw [Bool.and_eq_true] at g
    exact wF_at s (xor_lt g.1)
  · rw [if_neg g, if_neg g]
theorem cnt_xor {s p : Nat} (h : s.testBit p = true) (hp : p < 14) : cnt (fun i => (s ^^^ 2 ^ p).testBit i) 14 + 1 = cnt (fun i => s.testBit i) 14 := by
  have h0 : (s ^^^ 2 ^ p).testBit p = false := by rw [xor_bit, h]; simp
  have := cnt_or h0 14
  rw [xor_or h, if_pos hp] at this
  exact this.symm
theorem wW_b (hu : u.length ≤ 14) : ∀ (c s : Nat), cnt (fun i => s.testBit i) 14 = c → s < 16384 → wW P u s ≤ 14 ^ c := by
  intro c
  induction c with
  | zero =>
    intro s hc hs
    have hz : ∀ i, i < 14 → s.testBit i = false := fun i hi => by
      cases q : s.testBit i
      · rfl
      · have := cnt_lt (p := fun _ => false) (q := fun i => s.testBit i) (i := i) (k := 14) (fun j _ z => by cases z) hi rfl q
        omega
    rw [wW_eq]
    have e : sm (fun p => if lst P u s p then wW P u (s ^^^ 2 ^ p) else 0) u.length = 0 := sm_0 (fun p hp => by
      have : lst P u s p = false := by unfold lst; rw [hz p (by omega)]; rfl
      rw [this]; rfl)
    rw [e]
    split <;> decide
  | succ c ih =>
    intro s hc hs
    rw [wW_eq]
    have hs0 : s ≠ 0 := fun z => by
      rw [z] at hc
      have : cnt (fun i => (0 : Nat).testBit i) 14 = 0 := by simp [cnt]
      omega
    rw [if_neg hs0, Nat.zero_add]
    have := sm_b (f := fun p => if lst P u s p then wW P u (s ^^^ 2 ^ p) else 0) (b := 14 ^ c) (k := u.length) (fun p hp => by
      by_cases g : lst P u s p = true
      · have g1 : s.testBit p = true := by unfold lst at g; rw [Bool.and_eq_true] at g; exact g.1
        have hx := cnt_xor g1 (show p < 14 by omega)
        have hl := xor_lt g1
        simp only [if_pos g]
        exact ih _ (by omega) (by omega)
      · simp only [if_neg g]; exact Nat.zero_le _)
    refine Nat.le_trans this ?_
    rw [Nat.pow_succ, Nat.mul_comm]
    exact Nat.mul_le_mul_left _ hu
theorem wW_big (hu : u.length ≤ 14) {s : Nat} (hs : s < 16384) : wW P u s < 4611686018427387904 := by
  have h1 := wW_b (P := P) hu _ s rfl hs
  have h2 := cnt_le (fun i => s.testBit i) 14
  have h3 : 14 ^ cnt (fun i => s.testBit i) 14 ≤ 14 ^ 14 := Nat.pow_le_pow_right (by omega) h2
  have h4 : (14 : Nat) ^ 14 = 11112006825558016 := by decide
  omega
/-- what has come to s when the sets below x are through, and x up to j -/
def wV (P : Nat → Nat) (u : List Int) (x j s : Nat) : Nat := (if s = 0 then 1 else 0) + sm (fun p => if lst P u s p && (decide (s ^^^ 2 ^ p < x) || (decide (s ^^^ 2 ^ p = x) && decide (p < j))) then wW P u (s ^^^ 2 ^ p) else 0) u.length
theorem wV_le {x j s : Nat} : wV P u x j s ≤ wW P u s := by
  rw [wW_eq]
  unfold wV
  refine Nat.add_le_add_left (sm_le (fun p _ => ?_)) _
  cases lst P u s p
  · simp
  · simp only [Bool.true_and, if_true]
    split
    · exact Nat.le_refl _
    · exact Nat.zero_le _
theorem wV_full {x j s : Nat} (h : s ≤ x) : wV P u x j s = wW P u s := by
  rw [wW_eq]
  unfold wV
  congr 1
  refine sm_c (fun p _ => ?_)
  cases g : lst P u s p
  · simp
  · have g1 : s.testBit p = true := by unfold lst at g; rw [Bool.and_eq_true] at g; exact g.1
    have := xor_lt g1
    rw [decide_eq_true (show s ^^^ 2 ^ p < x by omega)]
    simp
theorem wV_0 {s : Nat} : wV P u 0 0 s = if s = 0 then 1 else 0 := by
  unfold wV
  rw [sm_0, Nat.add_zero]
  intro p _
  simp
theorem wV_next {x s : Nat} : wV P u (x + 1) 0 s = wV P u x u.length s := by
  unfold wV
  congr 1
  refine sm_c (fun p hp => ?_)
  rw [decide_eq_true hp]
  have : (decide (s ^^^ 2 ^ p < x + 1) || (decide (s ^^^ 2 ^ p = x + 1) && decide (p < 0))) = (decide (s ^^^ 2 ^ p < x) || (decide (s ^^^ 2 ^ p = x) && true)) := by
    rw [decide_eq_false (show ¬ p < 0 by omega), Bool.and_false, Bool.or_false, Bool.and_true, ← Bool.decide_or]
    exact decide_eq_decide.mpr (by omega)
  rw [this]
theorem wV_skip {x j s : Nat} (h : wW P u x = 0) : wV P u (x + 1) 0 s = wV P u x j s := by
  rw [wV_next]
  unfold wV
  congr 1
  refine sm_c (fun p hp => ?_)
  by_cases e : s ^^^ 2 ^ p = x
  · rw [e, h]; simp
  · simp [e]
/-- j is put behind x -/
theorem wV_put {x j : Nat} (hj : j < u.length) (h1 : x.testBit j = false) (h2 : sub0 (ahK P u j j) x) : wV P u x (j + 1) (x ||| 2 ^ j) = wV P u x j (x ||| 2 ^ j) + wW P u x := by
  unfold wV
  rw [Nat.add_assoc]
  congr 1
  have hb : (x ||| 2 ^ j).testBit j = true := by rw [or_bit]; simp
  refine sm_1 hj (fun p hp hne => ?_) ?_
  · have : decide (p < j + 1) = decide (p < j) := decide_eq_decide.mpr (by omega)
    simp only [this]
  · have hl : lst P u (x ||| 2 ^ j) j = true := by
      unfold lst
      rw [hb, or_xor h1, decide_eq_true h2]; rfl
    rw [or_xor h1, hl, decide_eq_true rfl, decide_eq_false (show ¬ x < x by omega), decide_eq_true (show j < j + 1 by omega), decide_eq_false (show ¬ j < j by omega)]
    simp
theorem wV_other {x j s : Nat} (h : ¬ (x.testBit j = false ∧ sub0 (ahK P u j j) x ∧ s = x ||| 2 ^ j)) : wV P u x (j + 1) s = wV P u x j s := by
  unfold wV
  congr 1
  refine sm_c (fun p hp => ?_)
  by_cases e : p = j
  · subst e
    cases g : lst P u s p
    · simp
    · unfold lst at g
      rw [Bool.and_eq_true] at g
      have hx : ¬ s ^^^ 2 ^ p = x := fun z => by
        refine h ⟨?_, ?_, ?_⟩
        · rw [← z, xor_bit, g.1]; simp
        · rw [← z]; exact of_decide_eq_true g.2
        · rw [← z, xor_or g.1]
      rw [decide_eq_false hx]
      simp
  · have : decide (p < j + 1) = decide (p < j) := decide_eq_decide.mpr (by omega)
    simp only [this]
def copN (P : Nat → Nat) (u : List Int) : Nat := wW P u (2 ^ u.length - 1)
def opCopies (P R : Nat → Nat) (ws : List (List Int)) (tx : List Int) (hs : List zLw) (kp : zKp) (ls : Nat → Option (List Int)) (rf : Nat → Int) (w : Int) : zSt × Int := if wd ws w then sOk P R ws tx hs kp ls rf (copN P (gw ws w) : Int) else sNl P R ws tx hs kp ls rf 1
/-! the reference -/
theorem mo_cp0 {w : Int} (h14 : u.length ≤ 14) (h : ∀ L', (∀ s, s < 2 ^ u.length → L' 135 s = if s = 0 then 1 else 0) → zEx (d + 1) m_mo_copies zb0 Q 62 ([zR 112, zI w, zI (u.length : Int), zI 0, zN], [], SH, M, L')) :
    ∀ (n s : Nat) (Lk : zM), s + n = 2 ^ u.length → (∀ i, i < s → Lk 135 i = if i = 0 then 1 else 0) → zEx (d + 1) m_mo_copies zb0 Q 32 ([zR 112, zI w, zI (u.length : Int), zI (s : Int), zN], [], SH, M, Lk) := by
  have hp : 2 ^ u.length ≤ 16384 := Nat.pow_le_pow_right (n := 2) (by omega) h14
  have hz : zshl 1 (u.length : Int) = ((2 ^ u.length : Nat) : Int) := by rw [zshl_1 (by omega) (by omega), Int.toNat_natCast]
  intro n
  induction n with
  | zero =>
    intro s Lk hs h1
    refine g_mo_copies_32 ?_
    rw [hz, if_neg (by omega)]
    exact h Lk (fun i hi => h1 i (by omega))
  | succ n ih =>
    intro s Lk hs h1
    refine g_mo_copies_32 ?_
    rw [hz, if_pos (by omega), zck_t (by omega), zck_t (by omega), Int.toNat_natCast, zwr_id (by omega) (by omega), show ((s : Int) + 1) = ((s + 1 : Nat) : Int) by omega]
    refine zif_c (fun g => ih (s + 1) _ (by omega) (fun i hi => ?_)) (fun g => ih (s + 1) _ (by omega) (fun i hi => ?_))
    · by_cases e : i = s
      · rw [e, zmu_s, if_pos (by omega)]
      · rw [zmu_j e]; exact h1 i (by omega)
    · by_cases e : i = s
      · rw [e, zmu_s, if_neg (by omega)]
      · rw [zmu_j e]; exact h1 i (by omega)
theorem or_lt {x j n : Nat} (hx : x < 2 ^ n) (hj : j < n) : x ||| 2 ^ j < 2 ^ n := Nat.or_lt_two_pow hx (Nat.pow_lt_pow_right (by omega) hj)
theorem mo_cp1 {w : Int} {x : Nat} (h14 : u.length ≤ 14) (hx : x < 2 ^ u.length) (hah : ∀ p, p < u.length → M 133 p = (ahK P u p p : Int)) (h : ∀ (L' : zM) (v4 : zV), (∀ s, s < 2 ^ u.length → L' 135 s = (wV P u (x + 1) 0 s : Int)) → zEx (d + 1) m_mo_copies zb0 Q 62 ([zR 112, zI w, zI (u.length : Int), zI ((x + 1 : Nat) : Int), v4], [], SH, M, L')) :
    ∀ (n j : Nat) (Lk : zM), j + n = u.length → (∀ s, s < 2 ^ u.length → Lk 135 s = (wV P u x j s : Int)) → zEx (d + 1) m_mo_copies zb0 Q 72 ([zR 112, zI w, zI (u.length : Int), zI (x : Int), zI (j : Int)], [], SH, M, Lk) := by
  have hp : 2 ^ u.length ≤ 16384 := Nat.pow_le_pow_right (n := 2) (by omega) h14
  intro n
  induction n with
  | zero =>
    intro j Lk hj h1
    have hj : j = u.length := by omega
    subst hj
    refine g_mo_copies_72 ?_
    rw [if_neg (by omega), zwr_id (by omega) (by omega), show ((x : Int) + 1) = ((x + 1 : Nat) : Int) by omega]
    exact h Lk _ (fun s hs => by rw [wV_next]; exact h1 s hs)
  | succ n ih =>
    intro j Lk hj h1
    have hlx : Lk 135 x = (wW P u x : Int) := by rw [h1 x hx, wV_full (Nat.le_refl _)]
    have hbx := wW_big (P := P) h14 (show x < 16384 by omega)
    have haj := p2_14 (ahK_lt (P := P) (u := u) (p := j) j) (by omega)
    have hp14 := p14 (a := j) (by omega)
    refine g_mo_copies_72 ?_
    rw [if_pos (by omega), zck_t (by omega), Int.toNat_natCast, hlx]
    by_cases g0 : wW P u x = 0
    · rw [if_neg (fun z => by have := zcmp_pos.mp z; omega), zwr_id (by omega) (by omega), show ((x : Int) + 1) = ((x + 1 : Nat) : Int) by omega]
      exact h Lk _ (fun s hs => by rw [wV_skip (j := j) g0]; exact h1 s hs)
    · rw [if_pos (zcmp_pos.mpr (by omega)), zbit_nat (by omega) (by omega)]
      rw [Int.toNat_natCast, hah j (by omega), zandn_nat (by omega) (by omega), zshl_1 (by omega) (by omega), Int.toNat_natCast, zor_nat (by omega) (by omega), Int.toNat_natCast]
      rw [zwr_id (x := (j : Int) + 1) (by omega) (by omega), show ((j : Int) + 1) = ((j + 1 : Nat) : Int) by omega]
      have hol := or_lt hx (show j < u.length by omega)
      have stay : ¬ (x.testBit j = false ∧ sub0 (ahK P u j j) x) → zEx (d + 1) m_mo_copies zb0 Q 72 ([zR 112, zI w, zI (u.length : Int), zI (x : Int), zI ((j + 1 : Nat) : Int)], [], SH, M, Lk) := fun z => ih (j + 1) Lk (by omega) (fun s hs => by rw [wV_other (fun q => z ⟨q.1, q.2.1⟩)]; exact h1 s hs)
      cases gb : x.testBit j
      · refine zif_t (by simp) ?_
        rw [zck_t (by omega)]
        by_cases gs : sub0 (ahK P u j j) x
        · have gs' : ahK P u j j ^^^ (ahK P u j j &&& x) = 0 := gs
          rw [if_pos (by rw [gs']; rfl), zck_t (by omega), zck_t (by omega), zck_t (by omega)]
          have hle := wV_le (P := P) (u := u) (x := x) (j := j + 1) (s := x ||| 2 ^ j)
          have hbo := wW_big (P := P) h14 (show x ||| 2 ^ j < 16384 by omega)
          have hput := wV_put (by omega) gb gs
          rw [h1 _ hol, zwl_id (by omega) (by omega)]
          refine ih (j + 1) _ (by omega) (fun s hs => ?_)
          by_cases e : s = x ||| 2 ^ j
          · rw [e, zmu_s, hput]; omega
          · rw [zmu_j e, wV_other (fun q => e q.2.2)]; exact h1 s hs
        · have gs' : ¬ ahK P u j j ^^^ (ahK P u j j &&& x) = 0 := gs
          rw [if_neg (by omega)]
          exact stay (fun q => gs q.2)
      · refine zif_f (by simp) ?_
        exact stay (fun q => by rw [gb] at q; cases q.1)
theorem mo_cp2 {w : Int} (h14 : u.length ≤ 14) (hah : ∀ p, p < u.length → M 133 p = (ahK P u p p : Int)) (h : ∀ L', Q (copN P u : Int) (SH, M, L')) :
    ∀ (n x : Nat) (Lk : zM) (v4 : zV), x + n = 2 ^ u.length → (∀ s, s < 2 ^ u.length → Lk 135 s = (wV P u x 0 s : Int)) → zEx (d + 1) m_mo_copies zb0 Q 62 ([zR 112, zI w, zI (u.length : Int), zI (x : Int), v4], [], SH, M, Lk) := by
  have hp : 2 ^ u.length ≤ 16384 := Nat.pow_le_pow_right (n := 2) (by omega) h14
  have hp1 : 1 ≤ 2 ^ u.length := Nat.one_le_two_pow
  have hz : zshl 1 (u.length : Int) = ((2 ^ u.length : Nat) : Int) := by rw [zshl_1 (by omega) (by omega), Int.toNat_natCast]
  intro n
  induction n with
  | zero =>
    intro x Lk v4 hx h1
    refine g_mo_copies_62 ?_
    rw [hz, if_neg (by omega), zwr_id (by omega) (by omega), zck_t (by omega), show (((2 ^ u.length : Nat) : Int) - 1).toNat = 2 ^ u.length - 1 by omega, h1 _ (by omega), wV_full (by omega)]
    exact h Lk
  | succ n ih =>
    intro x Lk v4 hx h1
    refine g_mo_copies_62 ?_
    rw [hz, if_pos (by omega)]
    exact mo_cp1 h14 (by omega) hah (fun L' v4 h2 => ih (x + 1) L' v4 (by omega) h2) u.length 0 Lk (by omega) h1
theorem c_mo_copies {w : Int} (hI : iM M P R ws tx hs kp ls rf) (h : ∀ M1 L1, jM M1 (opCopies P R ws tx hs kp ls rf w).1 → aC M M1 → Q (opCopies P R ws tx hs kp ls rf w).2 (SH, M1, L1)) : zEv (d + 9) m_mo_copies [zR 112, zI w] (SH, M, L) Q := by
  unfold opCopies at h
  refine b_mo_copies (g_mo_copies_0 (e_mo_isWord hI.s (g_mo_copies_5 ?_)))
  by_cases g : wd ws w
  · obtain ⟨w1, w2, w3, w4, w5⟩ := hI.w g
    rw [if_pos g] at h ⊢
    rw [if_neg (by decide)]
    refine e_mo_load hI g (Or.inl rfl) (fun M1 m1 I1 f1 => g_mo_copies_24 ?_)
    refine e_mo_orders I1.l hI.lo m1 w3 w2 (fun M2 m2 f2 => g_mo_copies_30 ?_)
    have J := I1.cx f2 (by decide)
    refine mo_cp0 (d := d + 8) (u := gw ws w) w2 (fun L1 h1 => ?_) (2 ^ (gw ws w).length) 0 L (by omega) (fun i hi => by omega)
    refine mo_cp2 (d := d + 8) (P := P) w2 (fun p hp => (m2 p hp).1) (fun L' => h M2 L' J.1 ((f1.aC (by decide)).tr J.2)) (2 ^ (gw ws w).length) 0 L1 zN (by omega) (fun s hs => ?_)
    rw [h1 s hs, wV_0]
    split <;> rfl
  · rw [if_neg g] at h ⊢
    rw [if_pos rfl]
    refine e_mo_noLI (k := 1) hI (by omega) (fun M1 I f => g_mo_copies_13 (h M1 L I f))
end CO
