/-! parts: they are told apart alike -/
section RC
variable {d : Nat} {M M' L : zM} {Q : Int → zW → Prop} {P R : Nat → Nat} {ws : List (List Int)} {tx : List Int} {hs : List zLw} {kp : zKp} {ls : Nat → Option (List Int)} {rf : Nat → Int} {s : Nat}
theorem prt_s {k x : Nat} : prt P s (k + 1) x = if (prt P s k x).testBit k then prt P s k x ||| (s ^^^ (s &&& P k)) else prt P s k x := rfl
theorem df_bit {a b i : Nat} : (a ^^^ (a &&& b)).testBit i = (a.testBit i && !b.testBit i) := by
  rw [Nat.testBit_xor, Nat.testBit_and]
  cases a.testBit i <;> cases b.testBit i <;> rfl
theorem prt_up {x i : Nat} (h : x.testBit i = true) : ∀ k, (prt P s k x).testBit i = true
  | 0 => h
  | k + 1 => by
    have := prt_up h k
    rw [prt_s]
    split
    · rw [Nat.testBit_or, this]; rfl
    · exact this
theorem prt_mono {x i k : Nat} (h : (prt P s k x).testBit i = true) : ∀ m, (prt P s (k + m) x).testBit i = true
  | 0 => h
  | m + 1 => by
    have := prt_mono h m
    rw [show k + (m + 1) = (k + m) + 1 by omega, prt_s]
    split
    · rw [Nat.testBit_or, this]; rfl
    · exact this
theorem prt_min {T : Nat → Prop} (hT : ∀ x, x < 6 → T x → ∀ y, s.testBit y = true → (P x).testBit y = false → T y) {x : Nat} (hx : ∀ y, x.testBit y = true → T y) : ∀ k, k ≤ 6 → ∀ y, (prt P s k x).testBit y = true → T y
  | 0, _ => hx
  | k + 1, hk => fun y hy => by
    have ih := prt_min hT hx k (by omega)
    rw [prt_s] at hy
    split at hy
    · next g =>
      rw [Nat.testBit_or, Bool.or_eq_true] at hy
      rcases hy with z | z
      · exact ih y z
      · rw [df_bit, Bool.and_eq_true] at z
        exact hT k (by omega) (ih k g) y z.1 (by simpa using z.2)
    · exact ih y hy
theorem prs_min {T : Nat → Prop} (hT : ∀ x, x < 6 → T x → ∀ y, s.testBit y = true → (P x).testBit y = false → T y) {x : Nat} (hx : ∀ y, x.testBit y = true → T y) : ∀ n y, (prs P s n x).testBit y = true → T y
  | 0 => hx
  | n + 1 => prt_min hT (prs_min hT hx n) 6 (by omega)
theorem prs_up {x i : Nat} (h : x.testBit i = true) : ∀ n, (prs P s n x).testBit i = true
  | 0 => h
  | n + 1 => prt_up (prs_up h n) 6
/-- nothing more comes -/
def clo (P : Nat → Nat) (s x : Nat) : Prop := ∀ a, a < 6 → x.testBit a = true → ∀ y, s.testBit y = true → (P a).testBit y = false → x.testBit y = true
theorem clo_of {x : Nat} (h : prt P s 6 x = x) : clo P s x := by
  intro a ha hx y hy hp
  have e1 : (prt P s a x).testBit a = true := prt_up hx a
  have e2 : (prt P s (a + 1) x).testBit y = true := by
    rw [prt_s, if_pos e1, Nat.testBit_or, df_bit, hy, hp]
    simp
  have := prt_mono e2 (5 - a)
  rw [show a + 1 + (5 - a) = 6 by omega, h] at this
  exact this
theorem cnt_lt {p q : Nat → Bool} {i : Nat} : ∀ {k : Nat}, (∀ j, j < k → p j = true → q j = true) → i < k → p i = false → q i = true → cnt p k < cnt q k
  | 0, _, h, _, _ => by omega
  | k + 1, h, hi, h1, h2 => by
    have hle := cnt_le2 (p := p) (q := q) (k := k) (fun j hj => h j (by omega))
    have hk := h k (by omega)
    show cnt p k + _ < cnt q k + _
    by_cases e : i = k
    · subst e
      rw [h1, h2]
      simp only [Bool.false_eq_true, if_false, if_true]
      omega
    · have ih := cnt_lt (p := p) (q := q) (i := i) (k := k) (fun j hj => h j (by omega)) (by omega) h1 h2
      cases hp : p k
      · simp only [Bool.false_eq_true, if_false]; omega
      · rw [hk hp]; simp only [if_true]; omega
theorem lt64_ext {x y : Nat} (hx : x < 64) (hy : y < 64) (h : ∀ i, i < 6 → x.testBit i = y.testBit i) : x = y := by
  apply Nat.eq_of_testBit_eq
  intro i
  by_cases q : i < 6
  · exact h i q
  · have hp : 2 ^ 6 ≤ 2 ^ i := Nat.pow_le_pow_right (by omega) (by omega)
    rw [Nat.testBit_lt_two_pow (Nat.lt_of_lt_of_le hx hp), Nat.testBit_lt_two_pow (Nat.lt_of_lt_of_le hy hp)]
theorem prs_clo (hs : s < 64) {b : Nat} (hb : b < 6) : clo P s (prs P s 6 (2 ^ b)) := by
  have lt : ∀ n, prs P s n (2 ^ b) < 64 := fun n => prs_lt hs n _ (p6 hb)
  have key : ∀ n, prt P s 6 (prs P s n (2 ^ b)) = prs P s n (2 ^ b) ∨ n + 1 ≤ cnt (fun i => (prs P s n (2 ^ b)).testBit i) 6 := by
    intro n
    induction n with
    | zero =>
      right
      have h0 := cnt_lt (p := fun _ => false) (q := fun i => (prs P s 0 (2 ^ b)).testBit i) (i := b) (k := 6) (fun j _ z => by cases z) hb rfl (by show (2 ^ b).testBit b = true; rw [Nat.testBit_two_pow]; simp)
      omega
    | succ n ih =>
      by_cases e : prt P s 6 (prs P s n (2 ^ b)) = prs P s n (2 ^ b)
      · left
        show prt P s 6 (prt P s 6 (prs P s n (2 ^ b))) = prt P s 6 (prs P s n (2 ^ b))
        rw [e, e]
      · right
        rcases ih with z | z
        · exact absurd z e
        · have hne : ∃ i, i < 6 ∧ (prs P s n (2 ^ b)).testBit i = false ∧ (prt P s 6 (prs P s n (2 ^ b))).testBit i = true := by
            refine Classical.byContradiction (fun q => e (lt64_ext (lt (n + 1)) (lt n) (fun i hi => ?_)))
            cases h1 : (prs P s n (2 ^ b)).testBit i
            · cases h2 : (prt P s 6 (prs P s n (2 ^ b))).testBit i
              · rfl
              · exact absurd ⟨i, hi, h1, h2⟩ q
            · exact prt_up h1 6
          obtain ⟨i, hi, h1, h2⟩ := hne
          have := cnt_lt (p := fun i => (prs P s n (2 ^ b)).testBit i) (q := fun i => (prt P s 6 (prs P s n (2 ^ b))).testBit i) (i := i) (k := 6) (fun j _ z => prt_up z 6) hi h1 h2
          show n + 1 + 1 ≤ cnt (fun i => (prt P s 6 (prs P s n (2 ^ b))).testBit i) 6
          omega
  rcases key 6 with z | z
  · exact clo_of z
  · have := cnt_le (fun i => (prs P s 6 (2 ^ b)).testBit i) 6
    omega
/-- the part of b -/
def ptC (P : Nat → Nat) (s b : Nat) : Nat := prs P s 6 (2 ^ b)
theorem two_bit {b i : Nat} : (2 ^ b).testBit i = true ↔ b = i := by rw [Nat.testBit_two_pow]; simp
theorem ptC_self {b : Nat} : (ptC P s b).testBit b = true := prs_up (two_bit.mpr rfl) 6
theorem ptC_in {b i : Nat} (hb : s.testBit b = true) (h : (ptC P s b).testBit i = true) : s.testBit i = true :=
  prs_min (P := P) (s := s) (T := fun i => s.testBit i = true) (fun _ _ _ y hy _ => hy) (fun y hy => by rw [← two_bit.mp hy]; exact hb) 6 i h
theorem s6 (hs : s < 64) {i : Nat} (h : s.testBit i = true) : i < 6 := by
  rcases Nat.lt_or_ge i 6 with z | z
  · exact z
  · rw [Nat.testBit_lt_two_pow (Nat.lt_of_lt_of_le hs (show 2 ^ 6 ≤ 2 ^ i from Nat.pow_le_pow_right (by omega) z))] at h
    cases h
theorem ptC_sub (hs : s < 64) {b c : Nat} (hb : b < 6) (h : (ptC P s b).testBit c = true) {y : Nat} (hy : (ptC P s c).testBit y = true) : (ptC P s b).testBit y = true :=
  prs_min (P := P) (s := s) (T := fun i => (ptC P s b).testBit i = true) (fun x hx hT y h1 h2 => prs_clo hs hb x hx hT y h1 h2) (fun y hy => by rw [← two_bit.mp hy]; exact h) 6 y hy
theorem ptC_sym (ho : lOk P R) (hs : s < 64) {b c : Nat} (hb : s.testBit b = true) (h : (ptC P s b).testBit c = true) : (ptC P s c).testBit b = true := by
  have hb6 := s6 hs hb
  have := prs_min (P := P) (s := s) (T := fun x => (ptC P s b).testBit x = true ∧ (ptC P s x).testBit b = true) (fun x hx hT y h1 h2 => ?_) (fun y hy => ?_) 6 c h
  · exact this.2
  · have hyb : (ptC P s b).testBit y = true := prs_clo hs hb6 x hx hT.1 y h1 h2
    refine ⟨hyb, ?_⟩
    have hy6 := s6 hs h1
    have hxs := ptC_in hb hT.1
    have hxy : (ptC P s y).testBit x = true := prs_clo hs hy6 y hy6 ptC_self x hxs (by rw [ho.2.1 y x hy6 hx]; exact h2)
    exact ptC_sub hs hy6 hxy hT.2
  · rw [← two_bit.mp hy]
    exact ⟨ptC_self, ptC_self⟩
theorem low_bits {x k : Nat} : x &&& (2 ^ k - 1) = 0 ↔ ∀ i, i < k → x.testBit i = false := by
  rw [Nat.and_two_pow_sub_one_eq_mod]
  constructor
  · intro h i hi
    have := Nat.testBit_mod_two_pow x k i
    rw [h, Nat.zero_testBit, decide_eq_true hi, Bool.true_and] at this
    exact this.symm
  · intro h
    apply Nat.eq_of_testBit_eq
    intro i
    rw [Nat.testBit_mod_two_pow, Nat.zero_testBit]
    by_cases q : i < k
    · rw [h i q, Bool.and_false]
    · rw [decide_eq_false q, Bool.false_and]
theorem hmp_s {k : Nat} : hmp P s (k + 1) = if (hmp P s k).1.testBit k then ((hmp P s k).1 ^^^ ((hmp P s k).1 &&& prs P s 6 (if s.testBit k then 2 ^ k else 0)), (hmp P s k).2 + 1) else hmp P s k := rfl
def isMin (P : Nat → Nat) (s b : Nat) : Bool := s.testBit b && decide (ptC P s b &&& (2 ^ b - 1) = 0)
theorem hmp_ok (ho : lOk P R) (hs : s < 64) : ∀ k, k ≤ 6 → (∀ x, (hmp P s k).1.testBit x = true ↔ s.testBit x = true ∧ ∀ j, j < k → s.testBit j = true → (ptC P s j).testBit x = false) ∧ (hmp P s k).2 = cnt (isMin P s) k
  | 0, _ => ⟨fun x => ⟨fun h => ⟨h, fun j hj => by omega⟩, fun h => h.1⟩, rfl⟩
  | k + 1, hk => by
    obtain ⟨ih1, ih2⟩ := hmp_ok ho hs k (by omega)
    rw [hmp_s]
    by_cases g : (hmp P s k).1.testBit k = true
    · rw [if_pos g]
      obtain ⟨g1, g2⟩ := (ih1 k).mp g
      rw [if_pos g1]
      have hmin : isMin P s k = true := by
        unfold isMin
        rw [g1, Bool.true_and]
        refine decide_eq_true (low_bits.mpr (fun i hi => ?_))
        cases q : (ptC P s k).testBit i
        · rfl
        · have his := ptC_in g1 q
          have := ptC_sym ho hs g1 q
          rw [g2 i hi his] at this
          cases this
      refine ⟨fun x => ?_, by rw [cnt_s hmin, ← ih2]⟩
      dsimp only
      rw [df_bit, Bool.and_eq_true, ih1 x]
      constructor
      · rintro ⟨⟨h1, h2⟩, h3⟩
        refine ⟨h1, fun j hj hjs => ?_⟩
        by_cases e : j = k
        · subst e
          have h3 : (!(ptC P s j).testBit x) = true := h3
          simpa using h3
        · exact h2 j (by omega) hjs
      · rintro ⟨h1, h2⟩
        refine ⟨⟨h1, fun j hj hjs => h2 j (by omega) hjs⟩, ?_⟩
        have := h2 k (by omega) g1
        show (!(ptC P s k).testBit x) = true
        rw [this]; rfl
    · rw [if_neg g]
      by_cases gs : s.testBit k = true
      · have hne : ∃ j, j < k ∧ s.testBit j = true ∧ (ptC P s j).testBit k = true := by
          refine Classical.byContradiction (fun q => g ((ih1 k).mpr ⟨gs, fun j hj hjs => ?_⟩))
          cases z : (ptC P s j).testBit k
          · rfl
          · exact absurd ⟨j, hj, hjs, z⟩ q
        obtain ⟨j, hj, hjs, hjk⟩ := hne
        have hkj := ptC_sym ho hs hjs hjk
        have hmin : isMin P s k = false := by
          unfold isMin
          rw [gs, Bool.true_and]
          refine decide_eq_false (fun z => ?_)
          rw [low_bits.mp z j hj] at hkj
          cases hkj
        refine ⟨fun x => ?_, by rw [cnt_n hmin, ← ih2]⟩
        rw [ih1 x]
        constructor
        · rintro ⟨h1, h2⟩
          refine ⟨h1, fun i hi his => ?_⟩
          by_cases e : i = k
          · subst e
            cases z : (ptC P s i).testBit x
            · rfl
            · have := ptC_sub hs (s6 hs hjs) hjk z
              rw [h2 j hj hjs] at this
              cases this
          · exact h2 i (by omega) his
        · rintro ⟨h1, h2⟩
          exact ⟨h1, fun i hi his => h2 i (by omega) his⟩
      · have hmin : isMin P s k = false := by
          unfold isMin
          simp at gs
          rw [gs]; rfl
        refine ⟨fun x => ?_, by rw [cnt_n hmin, ← ih2]⟩
        rw [ih1 x]
        constructor
        · rintro ⟨h1, h2⟩
          refine ⟨h1, fun i hi his => ?_⟩
          by_cases e : i = k
          · rw [e] at his; exact absurd his gs
          · exact h2 i (by omega) his
        · rintro ⟨h1, h2⟩
          exact ⟨h1, fun i hi his => h2 i (by omega) his⟩
theorem prt_0 : ∀ k, prt P s k 0 = 0
  | 0 => rfl
  | k + 1 => by rw [prt_s, prt_0 k, Nat.zero_testBit]; rfl
theorem prs_0 : ∀ n, prs P s n 0 = 0
  | 0 => rfl
  | n + 1 => by show prt P s 6 (prs P s n 0) = 0; rw [prs_0 n, prt_0]
theorem mo_parts_loop {w x : Int} (hs : s < 64) (hl : lIs M 112 P R) (hp : ∀ a, a < 6 → P a < 64) (h : Q (cnt (isMin P s) 6 : Int) (SH, M, L)) :
    ∀ (n k : Nat), k + n = 6 → zEx (d + 2) m_mo_parts zb0 Q 59 ([zR 112, zI w, zI x, zI (s : Int), zI (cnt (isMin P s) k : Int), zI (k : Int)], [], SH, M, L) := by
  intro n
  induction n with
  | zero =>
    intro k hk
    have hk : k = 6 := by omega
    subst hk
    refine g_mo_parts_59 ?_
    rw [if_neg (by decide)]
    exact h
  | succ n ih =>
    intro k hk
    have e := ih (k + 1) (by omega)
    have c6 := cnt_le (isMin P s) k
    refine g_mo_parts_59 ?_
    simp (disch := omega) only [zck_t, if_pos, if_neg, if_true, if_false, zwr_id, Int.toNat_natCast, zbit_if]
    by_cases g : s.testBit k = true
    · rw [if_pos g]
      refine e_mo_partOf (by omega) hs hl hp (g_mo_parts_85 ?_)
      have h6 := p6 (a := k) (by omega)
      have h0 : 0 < 2 ^ k := Nat.two_pow_pos k
      have hpl : ptC P s k < 64 := prs_lt hs 6 _ (p6 (by omega))
      rw [zshl_1 (by omega) (by omega), Int.toNat_natCast, zwr_id (x := ((2 ^ k : Nat) : Int) - 1) (by omega) (by omega), show ((2 ^ k : Nat) : Int) - 1 = ((2 ^ k - 1 : Nat) : Int) by omega]
      rw [show zand ((prs P s 6 (2 ^ k) : Nat) : Int) ((2 ^ k - 1 : Nat) : Int) = ((ptC P s k &&& (2 ^ k - 1) : Nat) : Int) from zand_nat (by unfold ptC at hpl; omega)]
      simp (disch := omega) only [zck_t, if_pos, if_neg, if_true, if_false, zwr_id, Int.toNat_natCast]
      rw [show ((k : Int) + 1) = ((k + 1 : Nat) : Int) by omega, Int.add_zero]
      by_cases g2 : ptC P s k &&& (2 ^ k - 1) = 0
      · rw [if_pos (by omega)]
        rw [cnt_s (by unfold isMin; rw [g, decide_eq_true g2]; rfl)] at e
        exact e
      · rw [if_neg (by omega)]
        rw [cnt_n (by unfold isMin; rw [g, decide_eq_false g2]; rfl)] at e
        exact e
    · rw [if_neg g, show ((k : Int) + 1) = ((k + 1 : Nat) : Int) by omega, Int.add_zero]
      rw [cnt_n (by unfold isMin; simp at g; rw [g]; rfl)] at e
      exact e
theorem c_mo_parts {w a : Int} (hI : iM M P R ws tx hs kp ls rf) (h : ∀ M1 L1, jM M1 (opParts P R ws tx hs kp ls rf w a).1 → aC M M1 → Q (opParts P R ws tx hs kp ls rf w a).2 (SH, M1, L1)) : zEv (d + 9) m_mo_parts [zR 112, zI w, zI a] (SH, M, L) Q := by
  unfold opParts at h
  refine b_mo_parts ?_
  (first | refine g_mo_parts_0 ?_ | refine g_mo_parts_5 ?_ | refine g_mo_parts_14 ?_ | refine g_mo_parts_22 ?_ | refine g_mo_parts_28 ?_ | refine g_mo_parts_48 ?_ | refine g_mo_parts_59 ?_ | refine g_mo_parts_85 ?_)
  refine e_mo_isWord hI.s ?_
  (first | refine g_mo_parts_0 ?_ | refine g_mo_parts_5 ?_ | refine g_mo_parts_14 ?_ | refine g_mo_parts_22 ?_ | refine g_mo_parts_28 ?_ | refine g_mo_parts_48 ?_ | refine g_mo_parts_59 ?_ | refine g_mo_parts_85 ?_)
  by_cases g : wd ws w
  · obtain ⟨w1, w2, w3, w4, w5⟩ := hI.w g
    rw [if_pos g, if_neg (by decide)]
    refine e_mo_isIn ?_
    (first | refine g_mo_parts_0 ?_ | refine g_mo_parts_5 ?_ | refine g_mo_parts_14 ?_ | refine g_mo_parts_22 ?_ | refine g_mo_parts_28 ?_ | refine g_mo_parts_48 ?_ | refine g_mo_parts_59 ?_ | refine g_mo_parts_85 ?_)
    by_cases g2 : -1 ≤ a ∧ a < 6
    · rw [if_pos ⟨g, g2⟩] at h
      rw [if_pos (show -1 ≤ a ∧ a ≤ 5 by omega), if_neg (by decide)]
      refine b_mo_stands (g_mo_stands_0 (mo_stands_loop (d := d + 7) hI g ?_ (gw ws w).length 0 (by omega)))
      have hb := lbits_64 w3
      (first | refine g_mo_parts_0 ?_ | refine g_mo_parts_5 ?_ | refine g_mo_parts_14 ?_ | refine g_mo_parts_22 ?_ | refine g_mo_parts_28 ?_ | refine g_mo_parts_48 ?_ | refine g_mo_parts_59 ?_ | refine g_mo_parts_85 ?_)
      by_cases g3 : a = -1
      · rw [if_pos g3, (hmp_ok hI.lo hb 6 (by omega)).2] at h
        rw [if_pos (by omega)]
        exact mo_parts_loop (d := d + 7) hb hI.l hI.lo.1 (h M L hI aC.r0) 6 0 (by omega)
      · rw [if_neg g3] at h
        rw [if_neg (by omega)]
        have e := h M L hI aC.r0
        have ea : zI a = zI ((a.toNat : Nat) : Int) := by rw [Int.toNat_of_nonneg (by omega)]
        have eb := zbit_if (x := lbits (gw ws w)) (k := a.toNat) (by omega) (by omega)
        rw [Int.toNat_of_nonneg (by omega)] at eb
        simp only [eb]
        by_cases g4 : (lbits (gw ws w)).testBit a.toNat = true
        · rw [if_pos g4]
          rw [ea]
          refine e_mo_partOf (by omega) hb hI.l hI.lo.1 ?_
          (first | refine g_mo_parts_0 ?_ | refine g_mo_parts_5 ?_ | refine g_mo_parts_14 ?_ | refine g_mo_parts_22 ?_ | refine g_mo_parts_28 ?_ | refine g_mo_parts_48 ?_ | refine g_mo_parts_59 ?_ | refine g_mo_parts_85 ?_)
          simp only [if_pos g4] at e
          exact e
        · rw [if_neg g4]
          simp only [if_neg g4, prs_0] at e
          exact e
    · rw [if_neg (fun q => g2 q.2)] at h
      rw [if_neg (show ¬ (-1 ≤ a ∧ a ≤ 5) by omega), if_pos rfl]
      (refine e_mo_noI (k := 1) hI (by omega) (fun M1 I f => ?_); (first | refine g_mo_parts_0 ?_ | refine g_mo_parts_5 ?_ | refine g_mo_parts_14 ?_ | refine g_mo_parts_22 ?_ | refine g_mo_parts_28 ?_ | refine g_mo_parts_48 ?_ | refine g_mo_parts_59 ?_ | refine g_mo_parts_85 ?_); exact h M1 L I f)
  · rw [if_neg (fun q => g q.1)] at h
    rw [if_neg g, if_pos rfl]
    (refine e_mo_noI (k := 1) hI (by omega) (fun M1 I f => ?_); (first | refine g_mo_parts_0 ?_ | refine g_mo_parts_5 ?_ | refine g_mo_parts_14 ?_ | refine g_mo_parts_22 ?_ | refine g_mo_parts_28 ?_ | refine g_mo_parts_48 ?_ | refine g_mo_parts_59 ?_ | refine g_mo_parts_85 ?_); exact h M1 L I f)
end RC
