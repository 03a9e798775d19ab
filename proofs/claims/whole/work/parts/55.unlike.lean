/-! unlike -/
theorem zwl_neg (x : Int) : zwl (-(zwl x)) = zwl (-x) := by
  unfold zwl
  rw [Int64.ofInt_neg, Int64.ofInt_toInt, ← Int64.ofInt_neg]
/-- sets of k letters that all pass, among the first n -/
def stc (P : Nat → Nat) (n k : Nat) : Nat := cnt (fun set => frB P set && decide (bcn set = k)) n
def uI (c : Nat → Nat) (T : Nat → Int) (l : Nat) : Nat → Int
  | 0 => 0
  | j + 1 => zwl (uI c T l j + zwl ((if (j + 1) % 2 = 1 then (c (j + 1) : Int) else -(c (j + 1) : Int)) * T (l - (j + 1))))
def uT (c : Nat → Nat) : Nat → Nat → Int
  | 0 => fun _ => 1
  | l + 1 => fun i => if i = l + 1 then uI c (uT c l) (l + 1) (min 6 (l + 1)) else uT c l i
def unN (P : Nat → Nat) (n m : Nat) : Int := uT (stc P (2 ^ m)) n n
def opUnlike (P R : Nat → Nat) (ws : List (List Int)) (tx : List Int) (hs : List zLw) (kp : zKp) (ls : Nat → Option (List Int)) (rf : Nat → Int) (n m : Int) : zSt × Int := if n < 0 ∨ m < 1 then sNl P R ws tx hs kp ls rf 4 else if 12 < n ∨ 6 < m then sNl P R ws tx hs kp ls rf 6 else sOk P R ws tx hs kp ls rf (unN P n.toNat m.toNat)
section UN
variable {d : Nat} {M M' L : zM} {Q : Int → zW → Prop} {P R : Nat → Nat} {ws : List (List Int)} {tx : List Int} {hs : List zLw} {kp : zKp} {ls : Nat → Option (List Int)} {rf : Nat → Int}
theorem stc_le (n k : Nat) : stc P n k ≤ n := cnt_le _ n
theorem stc_y {n k : Nat} (h : frB P n = true) (h2 : bcn n = k) : stc P (n + 1) k = stc P n k + 1 := cnt_s (by show (frB P n && decide (bcn n = k)) = true; rw [h, decide_eq_true h2]; rfl)
theorem stc_n {n k : Nat} (h : frB P n = false ∨ bcn n ≠ k) : stc P (n + 1) k = stc P n k := cnt_n (by
  show (frB P n && decide (bcn n = k)) = false
  rcases h with h | h
  · rw [h]; rfl
  · rw [decide_eq_false h, Bool.and_false])
theorem uT_at {c : Nat → Nat} {l i : Nat} : ∀ m, i ≤ l → uT c (l + m) i = uT c l i
  | 0, _ => rfl
  | m + 1, h => by
    show (if i = l + m + 1 then _ else _) = _
    rw [if_neg (by omega)]
    exact uT_at m h
theorem zrem2 {x : Nat} (h : x < 100) : zrem (x : Int) 2 = ((x % 2 : Nat) : Int) := zrem_nat (b := 2) (by omega) (by omega) (by omega)
theorem ta_un1 {n m : Int} (h : ∀ M', (∀ k, k < 7 → M' 95 k = 0) → cFr [95] M M' → zEx (d + 2) m_ta_countUnlike zb0 Q 27 ([zR 89, zI n, zI m, zR 1, zI 0, zN, zN, zN, zN, zN, zN], [], SH, M', L)) :
    ∀ (j k : Nat) (Mk : zM), k + j = 7 → (∀ i, i < k → Mk 95 i = 0) → cFr [95] M Mk → zEx (d + 2) m_ta_countUnlike zb0 Q 3 ([zR 89, zI n, zI m, zR 1, zI (k : Int), zN, zN, zN, zN, zN, zN], [], SH, Mk, L) := by
  intro j
  induction j with
  | zero =>
    intro k Mk hk h1 hf
    refine g_ta_countUnlike_3 zLaw_1 ?_
    rw [if_pos (by omega)]
    exact h Mk (fun i hi => h1 i (by omega)) hf
  | succ j ih =>
    intro k Mk hk h1 hf
    refine g_ta_countUnlike_3 zLaw_1 ?_
    simp (disch := omega) only [zck_t, if_pos, if_neg, if_true, if_false, zwr_id, Int.toNat_natCast]
    rw [show ((k : Int) + 1) = ((k + 1 : Nat) : Int) by omega]
    refine ih (k + 1) _ (by omega) (fun i hi => ?_) (fun a ha => ?_)
    · by_cases e : i = k
      · rw [e, zmu_s]
      · rw [zmu_j e]; exact h1 i (by omega)
    · rw [zmu_kf (by simpa using ha)]; exact hf a ha
theorem pow6 {m : Nat} (h : m ≤ 6) : 2 ^ m ≤ 64 := Nat.pow_le_pow_right (n := 2) (by omega) h
theorem ta_un2 {n : Int} {m : Nat} (hm : m ≤ 6) {M0 : zM} (hl0 : lIs M0 1 P R) (hp : ∀ a, a < 6 → P a < 64) (h : ∀ M', (∀ k, k < 7 → M' 95 k = (stc P (2 ^ m) k : Int)) → cFr [95] M0 M' → zEx (d + 2) m_ta_countUnlike zb0 Q 87 ([zR 89, zI n, zI (m : Int), zR 1, zI (zmin n 12), zI 1, zN, zN, zN, zN, zN], [], SH, M', zmu L 96 0 1)) :
    ∀ (j s : Nat) (Mk : zM), s + j = 2 ^ m → (∀ k, k < 7 → Mk 95 k = (stc P s k : Int)) → cFr [95] M0 Mk → zEx (d + 2) m_ta_countUnlike zb0 Q 27 ([zR 89, zI n, zI (m : Int), zR 1, zI (s : Int), zN, zN, zN, zN, zN, zN], [], SH, Mk, L) := by
  have h64 := pow6 hm
  have hz : zshl 1 (zmin (m : Int) 6) = ((2 ^ m : Nat) : Int) := by
    unfold zmin
    rw [show min (m : Int) 6 = (m : Int) by omega, zshl_1 (by omega) (by omega), Int.toNat_natCast]
  intro j
  induction j with
  | zero =>
    intro s Mk hs h1 hf
    have hs : s = 2 ^ m := by omega
    subst hs
    refine g_ta_countUnlike_27 zLaw_1 ?_
    rw [hz, if_neg (by omega)]
    exact h Mk h1 hf
  | succ j ih =>
    intro s Mk hs h1 hf
    refine g_ta_countUnlike_27 zLaw_1 ?_
    rw [hz, if_pos (by omega)]
    refine e_la_isFree (by omega) zLaw_1 (hf.law hl0 (by decide) (by decide)) hp (g_ta_countUnlike_46 zLaw_1 ?_)
    cases g : frB P s
    · refine zif_t (by simp) ?_
      rw [zwr_id (by omega) (by omega), show ((s : Int) + 1) = ((s + 1 : Nat) : Int) by omega]
      exact ih (s + 1) Mk (by omega) (fun k hk => by rw [stc_n (Or.inl g)]; exact h1 k hk) hf
    · refine zif_f (by simp) (e_jd_bitCount (by omega) (g_ta_countUnlike_58 zLaw_1 ?_))
      have hb6 := bcn_le6 (n := s) (by omega)
      have hsl := stc_le (P := P) s (bcn s)
      simp (disch := omega) only [zck_t, if_pos, if_neg, if_true, if_false, zwr_id, Int.toNat_natCast]
      rw [h1 _ (by omega), zwr_id (by omega) (by omega), show ((s : Int) + 1) = ((s + 1 : Nat) : Int) by omega]
      refine ih (s + 1) _ (by omega) (fun k hk => ?_) (fun a ha => ?_)
      · by_cases e : k = bcn s
        · rw [e, zmu_s, stc_y g rfl]; omega
        · rw [zmu_j e, stc_n (Or.inr (Ne.symm e))]; exact h1 k hk
      · rw [zmu_kf (by simpa using ha)]; exact hf a ha
theorem ta_un3 {n m x4 : Int} {c : Nat → Nat} {l : Nat} (hl1 : 1 ≤ l) (hl : l ≤ 12) (hc : ∀ k, k < 7 → M 95 k = (c k : Int)) (hT : ∀ i, i < l → L 96 i = uT c (l - 1) i) (h : ∀ (y6 x8 : Int) (v9 : zV), zEx (d + 2) m_ta_countUnlike zb0 Q 87 ([zR 89, zI n, zI m, zR 1, zI x4, zI ((l + 1 : Nat) : Int), zL y6, zN, zI x8, v9, zN], [], SH, M, zmu L 96 l (uI c (uT c (l - 1)) l (min 6 l)))) :
    ∀ (j k : Nat) (v9 : zV), k + j = min 6 l + 1 → 1 ≤ k → zEx (d + 2) m_ta_countUnlike zb0 Q 100 ([zR 89, zI n, zI m, zR 1, zI x4, zI (l : Int), zL (uI c (uT c (l - 1)) l (k - 1)), zN, zI (k : Int), v9, zN], [], SH, M, L) := by
  intro j
  induction j with
  | zero =>
    intro k v9 hk hk1
    refine g_ta_countUnlike_100 zLaw_1 ?_
    rw [show k - 1 = min 6 l by omega, zwr_id (x := (l : Int) + 1) (by omega) (by omega), show ((l : Int) + 1) = ((l + 1 : Nat) : Int) by omega, Int.toNat_natCast]
    by_cases g : 6 < (k : Int)
    · rw [if_pos g, zck_t (by omega)]
      exact h _ _ _
    · rw [if_neg g, if_pos (by omega), zck_t (by omega)]
      exact h _ _ _
  | succ j ih =>
    intro k v9 hk hk1
    have e := fun v9 => ih (k + 1) v9 (by omega) (by omega)
    obtain ⟨k', rfl⟩ : ∃ k', k = k' + 1 := ⟨k - 1, by omega⟩
    rw [show k' + 1 + 1 - 1 = k' + 1 by omega] at e
    rw [show k' + 1 - 1 = k' by omega]
    have eu : uI c (uT c (l - 1)) l (k' + 1) = zwl (uI c (uT c (l - 1)) l k' + zwl ((if (k' + 1) % 2 = 1 then (c (k' + 1) : Int) else -(c (k' + 1) : Int)) * uT c (l - 1) (l - (k' + 1)))) := rfl
    rw [eu] at e
    refine g_ta_countUnlike_100 zLaw_1 ?_
    rw [if_neg (by omega), if_neg (by omega), zrem2 (by omega)]
    rw [zwr_id (x := (l : Int) - ((k' + 1 : Nat) : Int)) (by omega) (by omega), show ((l : Int) - ((k' + 1 : Nat) : Int)).toNat = l - (k' + 1) by omega, Int.toNat_natCast, hc (k' + 1) (by omega), hT _ (by omega), zck_t (by omega), zck_t (by omega), zwr_id (by omega) (by omega), show ((k' + 1 : Nat) : Int) + 1 = ((k' + 1 + 1 : Nat) : Int) by omega]
    by_cases g : (k' + 1) % 2 = 1
    · rw [if_pos g] at e
      rw [if_pos (by omega)]
      exact e _
    · rw [if_neg g, Int.neg_mul, ← zwl_neg] at e
      rw [if_neg (by omega)]
      exact e _
theorem ta_un4 {n : Nat} {m : Int} {c : Nat → Nat} (hn : n ≤ 12) (hc : ∀ k, k < 7 → M 95 k = (c k : Int)) (h : ∀ L', Q (uT c n n) (SH, M, L')) :
    ∀ (j l : Nat) (Lk : zM) (v6 v8 v9 : zV), l + j = n + 1 → 1 ≤ l → (∀ i, i < l → Lk 96 i = uT c (l - 1) i) → zEx (d + 2) m_ta_countUnlike zb0 Q 87 ([zR 89, zI (n : Int), zI m, zR 1, zI (n : Int), zI (l : Int), v6, zN, v8, v9, zN], [], SH, M, Lk) := by
  intro j
  induction j with
  | zero =>
    intro l Lk v6 v8 v9 hl hl1 hT
    refine g_ta_countUnlike_87 zLaw_1 ?_
    rw [if_pos (by omega), if_neg (by omega), zck_t (by omega), Int.toNat_natCast, hT n (by omega), show l - 1 = n by omega]
    exact h Lk
  | succ j ih =>
    intro l Lk v6 v8 v9 hl hl1 hT
    refine g_ta_countUnlike_87 zLaw_1 ?_
    rw [if_neg (by omega)]
    refine ta_un3 hl1 (by omega) hc hT (fun y6 x8 v9 => ?_) (min 6 l) 1 v9 (by omega) (by omega)
    refine ih (l + 1) _ _ _ _ (by omega) (by omega) (fun i hi => ?_)
    obtain ⟨l', rfl⟩ : ∃ l', l = l' + 1 := ⟨l - 1, by omega⟩
    rw [show l' + 1 + 1 - 1 = l' + 1 by omega, show l' + 1 - 1 = l' by omega]
    show _ = (if i = l' + 1 then _ else _)
    by_cases e : i = l' + 1
    · rw [if_pos e, e, zmu_s]
    · rw [if_neg e, zmu_j e]
      exact hT i (by omega)
theorem c_lt_unlike {n m : Int} (hI : iC M P R ws tx hs kp ls rf) (h : ∀ M1 L1, jC M1 (opUnlike P R ws tx hs kp ls rf n m).1 → aM M M1 → Q (opUnlike P R ws tx hs kp ls rf n m).2 (SH, M1, L1)) : zEv (d + 9) m_lt_unlike [zR 0, zI n, zI m] (SH, M, L) Q := by
  unfold opUnlike at h
  refine b_lt_unlike ?_
  (first | refine g_lt_unlike_0 ?_ | refine g_lt_unlike_15 ?_ | refine g_lt_unlike_34 ?_ | refine g_lt_unlike_48 ?_)
  have no4 : n < 0 ∨ m < 1 → zEv (d + 8) m_lt_refuseFar [zR 0, zI (-4)] (SH, M, L) (fun x w => zEx (d + 9) m_lt_unlike zb0 Q 15 ([zR 0, zI n, zI m], [zL x], w)) := fun g => by
    rw [if_pos g] at h
    exact e_lt_noFar (k := 4) hI (by omega) (fun M1 I f => g_lt_unlike_15 (h M1 L I f))
  have no6 : ¬ (n < 0 ∨ m < 1) → 12 < n ∨ 6 < m → zEv (d + 8) m_lt_refuseFar [zR 0, zI (-6)] (SH, M, L) (fun x w => zEx (d + 9) m_lt_unlike zb0 Q 34 ([zR 0, zI n, zI m], [zL x], w)) := fun g0 g => by
    rw [if_neg g0, if_pos g] at h
    exact e_lt_noFar (k := 6) hI (by omega) (fun M1 I f => g_lt_unlike_34 (h M1 L I f))
  refine zif_c (fun c1 => no4 (Or.inl c1)) (fun c1 => zif_c (fun c2 => no4 (Or.inr c2)) (fun c2 => zif_c (fun c3 => no6 (by omega) (Or.inl c3)) (fun c3 => zif_c (fun c4 => no6 (by omega) (Or.inr c4)) (fun c4 => ?_))))
  rw [if_neg (by omega), if_neg (by omega)] at h
  obtain ⟨n', rfl⟩ : ∃ n' : Nat, n = (n' : Int) := ⟨n.toNat, by omega⟩
  obtain ⟨m', rfl⟩ : ∃ m' : Nat, m = (m' : Int) := ⟨m.toNat, by omega⟩
  rw [Int.toNat_natCast, Int.toNat_natCast] at h
  refine b_ta_countUnlike (g_ta_countUnlike_0 zLaw_1 (ta_un1 (d := d + 6) (fun M1 a1 f1 => ?_) 7 0 M (by omega) (fun i hi => by omega) cFr.rf))
  refine ta_un2 (d := d + 6) (by omega) (f1.law hI.l (by decide) (by decide)) hI.lo.1 (fun M2 a2 f2 => ?_) (2 ^ m') 0 M1 (by omega) (fun k hk => by rw [a1 k hk]; rfl) cFr.rf
  have ez : zmin (n' : Int) 12 = (n' : Int) := by unfold zmin; omega
  rw [ez]
  have f12 := f1.tr f2
  refine ta_un4 (d := d + 6) (by omega) a2 (fun L' => ?_) n' 1 _ _ _ _ (by omega) (by omega) (fun i hi => ?_)
  · refine g_lt_unlike_48 ?_
    exact h M2 L' (hI.fr f12 (by decide)) (f12.aM (by decide))
  · rw [show i = 0 by omega, zmu_s]
    rfl
/-! unlike, by the reference -/
theorem mo_un1 {n m : Int} (h : ∀ M', (∀ k, k < 6 → M' 137 k = 0) → cFr [137] M M' → zEx (d + 2) m_mo_unlike zb0 Q 58 ([zR 112, zI n, zI m, zI 1, zN, zN], [], SH, M', L)) :
    ∀ (j k : Nat) (Mk : zM), k + j = 6 → (∀ i, i < k → Mk 137 i = 0) → cFr [137] M Mk → zEx (d + 2) m_mo_unlike zb0 Q 37 ([zR 112, zI n, zI m, zI (k : Int), zN, zN], [], SH, Mk, L) := by
  intro j
  induction j with
  | zero =>
    intro k Mk hk h1 hf
    refine g_mo_unlike_37 ?_
    rw [if_neg (by omega)]
    exact h Mk (fun i hi => h1 i (by omega)) hf
  | succ j ih =>
    intro k Mk hk h1 hf
    refine g_mo_unlike_37 ?_
    simp (disch := omega) only [zck_t, if_pos, if_neg, if_true, if_false, zwr_id, Int.toNat_natCast]
    rw [show ((k : Int) + 1) = ((k + 1 : Nat) : Int) by omega]
    refine ih (k + 1) _ (by omega) (fun i hi => ?_) (fun a ha => ?_)
    · by_cases e : i = k
      · rw [e, zmu_s]
      · rw [zmu_j e]; exact h1 i (by omega)
    · rw [zmu_kf (by simpa using ha)]; exact hf a ha
theorem mo_un2a {n : Int} {m s : Nat} (hm : m ≤ 6) (hs : s < 2 ^ m) (h : zEx (d + 2) m_mo_unlike zb0 Q 82 ([zR 112, zI n, zI (m : Int), zI (s : Int), zI ((bcn s : Int) - 1), zI (m : Int)], [], SH, M, L)) :
    ∀ (j a : Nat), a + j = m → zEx (d + 2) m_mo_unlike zb0 Q 82 ([zR 112, zI n, zI (m : Int), zI (s : Int), zI ((cnt (fun i => s.testBit i) a : Int) - 1), zI (a : Int)], [], SH, M, L) := by
  have h64 := pow6 hm
  intro j
  induction j with
  | zero =>
    intro a ha
    have ha : a = m := by omega
    subst ha
    have e := cnt_out (f := fun i => s.testBit i) (p := a) (fun q hq => Nat.testBit_lt_two_pow (Nat.lt_of_lt_of_le hs (Nat.pow_le_pow_right (by omega) hq))) (6 - a)
    rw [show a + (6 - a) = 6 by omega, ← bcn_cnt s (by omega)] at e
    rw [← e]
    exact h
  | succ j ih =>
    intro a ha
    have e := ih (a + 1) (by omega)
    have hc := cnt_le (fun i => s.testBit i) a
    refine g_mo_unlike_82 ?_
    rw [if_pos (by omega), zbit_nat (by omega) (by omega)]
    cases g : s.testBit a
    · rw [cnt_n (p := fun i => s.testBit i) g] at e
      simp only [Bool.false_eq_true, if_false, Int.add_zero]
      simp (disch := omega) only [zck_t, if_pos, if_neg, if_true, if_false, zwr_id, Int.toNat_natCast]
      rw [show ((a : Int) + 1) = ((a + 1 : Nat) : Int) by omega]
      exact e
    · rw [cnt_s (p := fun i => s.testBit i) g] at e
      simp only [if_true]
      simp (disch := omega) only [zck_t, if_pos, if_neg, if_true, if_false, zwr_id, Int.toNat_natCast]
      rw [show ((a : Int) + 1) = ((a + 1 : Nat) : Int) by omega, show (cnt (fun i => s.testBit i) a : Int) - 1 + 1 = ((cnt (fun i => s.testBit i) a + 1 : Nat) : Int) - 1 by omega]
      exact e
theorem bcn_pos : ∀ s, s < 64 → 0 < s → 0 < bcn s := by decide +kernel
theorem mo_un2 {n : Int} {m : Nat} (hm : m ≤ 6) {M0 : zM} (hl0 : lIs M0 112 P R) (hp : ∀ a, a < 6 → P a < 64) (h : ∀ (M' : zM) (v4 v5 : zV), (∀ k, k < 6 → M' 137 k = (stc P (2 ^ m) (k + 1) : Int)) → cFr [137] M0 M' → zEx (d + 2) m_mo_unlike zb0 Q 131 ([zR 112, zI n, zI (m : Int), zI 1, v4, v5], [], SH, M', zmu L 135 0 1)) :
    ∀ (j s : Nat) (Mk : zM) (v4 v5 : zV), s + j = 2 ^ m → 1 ≤ s → (∀ k, k < 6 → Mk 137 k = (stc P s (k + 1) : Int)) → cFr [137] M0 Mk → zEx (d + 2) m_mo_unlike zb0 Q 58 ([zR 112, zI n, zI (m : Int), zI (s : Int), v4, v5], [], SH, Mk, L) := by
  have h64 := pow6 hm
  intro j
  induction j with
  | zero =>
    intro s Mk v4 v5 hs hs1 h1 hf
    have hs : s = 2 ^ m := by omega
    subst hs
    refine g_mo_unlike_58 ?_
    rw [zshl_1 (by omega) (by omega), Int.toNat_natCast, if_neg (by omega)]
    exact h Mk v4 v5 h1 hf
  | succ j ih =>
    intro s Mk v4 v5 hs hs1 h1 hf
    refine g_mo_unlike_58 ?_
    rw [zshl_1 (by omega) (by omega), Int.toNat_natCast, if_pos (by omega)]
    refine e_mo_isFree (by omega) (hf.law hl0 (by decide) (by decide)) hp (g_mo_unlike_70 ?_)
    cases g : frB P s
    · refine zif_t (by simp) ?_
      rw [zwr_id (by omega) (by omega), show ((s : Int) + 1) = ((s + 1 : Nat) : Int) by omega]
      exact ih (s + 1) Mk _ _ (by omega) (by omega) (fun k hk => by rw [stc_n (Or.inl g)]; exact h1 k hk) hf
    · refine zif_f (by simp) ?_
      have hb6 := bcn_le6 (n := s) (by omega)
      have hb0 := bcn_pos s (by omega) (by omega)
      have := mo_un2a (d := d) (Q := Q) (L := L) (M := Mk) (n := n) hm (show s < 2 ^ m by omega) ?_ m 0 (by omega)
      · exact this
      · refine g_mo_unlike_82 ?_
        have hsl := stc_le (P := P) s (bcn s)
        rw [if_neg (by omega), zck_t (by omega), zck_t (by omega), show ((bcn s : Int) - 1).toNat = bcn s - 1 by omega, h1 _ (by omega), show bcn s - 1 + 1 = bcn s by omega, zwr_id (by omega) (by omega), zwr_id (by omega) (by omega), show ((s : Int) + 1) = ((s + 1 : Nat) : Int) by omega]
        refine ih (s + 1) _ _ _ (by omega) (by omega) (fun k hk => ?_) (fun a ha => ?_)
        · by_cases e : k = bcn s - 1
          · rw [e, zmu_s, show bcn s - 1 + 1 = bcn s by omega, stc_y g rfl]; omega
          · rw [zmu_j e, stc_n (Or.inr (by omega))]; exact h1 k hk
        · rw [zmu_kf (by simpa using ha)]; exact hf a ha
theorem mo_un3 {n m : Int} {c : Nat → Nat} {l : Nat} {v5 : zV} (hl1 : 1 ≤ l) (hl : l ≤ 12) (hc6 : ∀ k, k < 7 → c k ≤ 64) (hc : ∀ k, k < 6 → M 137 k = (c (k + 1) : Int)) {L0 : zM} (hT : ∀ i, i < l → L0 135 i = uT c (l - 1) i) (h : ∀ (L' : zM) (x4 : Int), (∀ i, i < l → L' 135 i = L0 135 i) → L' 135 l = uI c (uT c (l - 1)) l (min 6 l) → zEx (d + 2) m_mo_unlike zb0 Q 131 ([zR 112, zI n, zI m, zI ((l + 1 : Nat) : Int), zI x4, v5], [], SH, M, L')) :
    ∀ (j k : Nat) (Lk : zM), k + j = min 6 l + 1 → 1 ≤ k → (∀ i, i < l → Lk 135 i = L0 135 i) → Lk 135 l = uI c (uT c (l - 1)) l (k - 1) → zEx (d + 2) m_mo_unlike zb0 Q 146 ([zR 112, zI n, zI m, zI (l : Int), zI (k : Int), v5], [], SH, M, Lk) := by
  intro j
  induction j with
  | zero =>
    intro k Lk hk hk1 h1 h2
    refine g_mo_unlike_146 ?_
    rw [zwr_id (x := (l : Int) + 1) (by omega) (by omega), show ((l : Int) + 1) = ((l + 1 : Nat) : Int) by omega]
    rw [show k - 1 = min 6 l by omega] at h2
    by_cases g : (l : Int) < (k : Int)
    · rw [if_pos g]
      exact h Lk _ h1 h2
    · rw [if_neg g, if_pos (by omega)]
      exact h Lk _ h1 h2
  | succ j ih =>
    intro k Lk hk hk1 h1 h2
    obtain ⟨k', rfl⟩ : ∃ k', k = k' + 1 := ⟨k - 1, by omega⟩
    rw [show k' + 1 - 1 = k' by omega] at h2
    have eu : uI c (uT c (l - 1)) l (k' + 1) = zwl (uI c (uT c (l - 1)) l k' + zwl ((if (k' + 1) % 2 = 1 then (c (k' + 1) : Int) else -(c (k' + 1) : Int)) * uT c (l - 1) (l - (k' + 1)))) := rfl
    have c64 := hc6 (k' + 1) (by omega)
    refine g_mo_unlike_146 ?_
    rw [if_neg (by omega), if_neg (by omega), zrem2 (by omega)]
    rw [zwr_id (x := (l : Int) - ((k' + 1 : Nat) : Int)) (by omega) (by omega), show ((l : Int) - ((k' + 1 : Nat) : Int)).toNat = l - (k' + 1) by omega, zwr_id (x := ((k' + 1 : Nat) : Int) - 1) (by omega) (by omega), show (((k' + 1 : Nat) : Int) - 1).toNat = k' by omega, Int.toNat_natCast, hc k' (by omega), h2, h1 (l - (k' + 1)) (by omega), hT (l - (k' + 1)) (by omega), zwr_id (x := ((k' + 1 : Nat) : Int) + 1) (by omega) (by omega), show ((k' + 1 : Nat) : Int) + 1 = ((k' + 1 + 1 : Nat) : Int) by omega, zwr_id (x := -(c (k' + 1) : Int)) (by omega) (by omega)]
    simp (disch := omega) only [zck_t]
    by_cases g : (k' + 1) % 2 = 1
    · rw [if_pos g] at eu
      rw [if_pos (by omega)]
      refine ih (k' + 1 + 1) _ (by omega) (by omega) (fun i hi => by rw [zmu_j (by omega)]; exact h1 i hi) ?_
      rw [zmu_s, show k' + 1 + 1 - 1 = k' + 1 by omega, eu]
    · rw [if_neg g] at eu
      rw [if_neg (by omega)]
      refine ih (k' + 1 + 1) _ (by omega) (by omega) (fun i hi => by rw [zmu_j (by omega)]; exact h1 i hi) ?_
      rw [zmu_s, show k' + 1 + 1 - 1 = k' + 1 by omega, eu]
theorem mo_un4 {n : Nat} {m : Int} {c : Nat → Nat} (hn : n ≤ 12) (hc6 : ∀ k, k < 7 → c k ≤ 64) (hc : ∀ k, k < 6 → M 137 k = (c (k + 1) : Int)) (h : ∀ L', Q (uT c n n) (SH, M, L')) :
    ∀ (j l : Nat) (Lk : zM) (v4 v5 : zV), l + j = n + 1 → 1 ≤ l → (∀ i, i < l → Lk 135 i = uT c (l - 1) i) → zEx (d + 2) m_mo_unlike zb0 Q 131 ([zR 112, zI (n : Int), zI m, zI (l : Int), v4, v5], [], SH, M, Lk) := by
  intro j
  induction j with
  | zero =>
    intro l Lk v4 v5 hl hl1 hT
    refine g_mo_unlike_131 ?_
    rw [if_pos (by omega), zck_t (by omega), Int.toNat_natCast, hT n (by omega), show l - 1 = n by omega]
    exact h Lk
  | succ j ih =>
    intro l Lk v4 v5 hl hl1 hT
    refine g_mo_unlike_131 ?_
    rw [if_neg (by omega), zck_t (by omega), Int.toNat_natCast]
    refine mo_un3 hl1 (by omega) hc6 hc hT (fun L' x4 b1 b2 => ?_) (min 6 l) 1 _ (by omega) (by omega) (fun i hi => by rw [zmu_j (by omega)]) zmu_s
    refine ih (l + 1) L' _ _ (by omega) (by omega) (fun i hi => ?_)
    obtain ⟨l', rfl⟩ : ∃ l', l = l' + 1 := ⟨l - 1, by omega⟩
    rw [show l' + 1 - 1 = l' by omega] at b2 hT
    rw [show l' + 1 + 1 - 1 = l' + 1 by omega]
    show _ = (if i = l' + 1 then _ else _)
    by_cases e : i = l' + 1
    · rw [if_pos e, e, b2]
    · rw [if_neg e, b1 i (by omega)]
      exact hT i (by omega)
theorem c_mo_unlike {n m : Int} (hI : iM M P R ws tx hs kp ls rf) (h : ∀ M1 L1, jM M1 (opUnlike P R ws tx hs kp ls rf n m).1 → aC M M1 → Q (opUnlike P R ws tx hs kp ls rf n m).2 (SH, M1, L1)) : zEv (d + 9) m_mo_unlike [zR 112, zI n, zI m] (SH, M, L) Q := by
  unfold opUnlike at h
  refine b_mo_unlike ?_
  refine g_mo_unlike_0 ?_
  have no4 : n < 0 ∨ m < 1 → zEv (d + 8) m_mo_noLong [zR 112, zI (-4)] (SH, M, L) (fun x w => zEx (d + 9) m_mo_unlike zb0 Q 15 ([zR 112, zI n, zI m, zN, zN, zN], [zL x], w)) := fun g => by
    rw [if_pos g] at h
    exact e_mo_noLI (k := 4) hI (by omega) (fun M1 I f => g_mo_unlike_15 (h M1 L I f))
  have no6 : ¬ (n < 0 ∨ m < 1) → 12 < n ∨ 6 < m → zEv (d + 8) m_mo_noLong [zR 112, zI (-6)] (SH, M, L) (fun x w => zEx (d + 9) m_mo_unlike zb0 Q 34 ([zR 112, zI n, zI m, zN, zN, zN], [zL x], w)) := fun g0 g => by
    rw [if_neg g0, if_pos g] at h
    exact e_mo_noLI (k := 6) hI (by omega) (fun M1 I f => g_mo_unlike_34 (h M1 L I f))
  refine zif_c (fun c1 => no4 (Or.inl c1)) (fun c1 => zif_c (fun c2 => no4 (Or.inr c2)) (fun c2 => zif_c (fun c3 => no6 (by omega) (Or.inl c3)) (fun c3 => zif_c (fun c4 => no6 (by omega) (Or.inr c4)) (fun c4 => ?_))))
  rw [if_neg (by omega), if_neg (by omega)] at h
  obtain ⟨n', rfl⟩ : ∃ n' : Nat, n = (n' : Int) := ⟨n.toNat, by omega⟩
  obtain ⟨m', rfl⟩ : ∃ m' : Nat, m = (m' : Int) := ⟨m.toNat, by omega⟩
  rw [Int.toNat_natCast, Int.toNat_natCast] at h
  refine mo_un1 (d := d + 7) (fun M1 a1 f1 => ?_) 6 0 M (by omega) (fun i hi => by omega) cFr.rf
  have hp2 : 1 ≤ 2 ^ m' := Nat.one_le_two_pow
  have st1 : ∀ k, stc P 1 (k + 1) = 0 := fun k => by
    have : stc P (0 + 1) (k + 1) = stc P 0 (k + 1) := stc_n (Or.inr (by rw [show bcn 0 = 0 from rfl]; omega))
    exact this
  refine mo_un2 (d := d + 7) (by omega) (f1.law hI.l (by decide) (by decide)) hI.lo.1 (fun M2 v4 v5 a2 f2 => ?_) (2 ^ m' - 1) 1 M1 _ _ (by omega) (by omega) (fun k hk => by rw [a1 k hk, st1]; rfl) cFr.rf
  have f12 := f1.tr f2
  have J := hI.cx f12 (by decide)
  have h64 := pow6 (m := m') (by omega)
  refine mo_un4 (d := d + 7) (by omega) (fun k hk => Nat.le_trans (stc_le _ _) h64) a2 (fun L' => h M2 L' J.1 J.2) n' 1 _ _ _ (by omega) (by omega) (fun i hi => ?_)
  rw [show i = 0 by omega, zmu_s]
  rfl
end UN
