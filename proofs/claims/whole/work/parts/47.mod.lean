/-! the reference: ready places, beginnings, common ones, blocks -/
theorem lbits_bit : ∀ (u : List Int) (b i : Nat), (u.foldl (fun b a => b ||| 2 ^ a.toNat) b).testBit i = (b.testBit i || u.any (fun a => decide (a.toNat = i)))
  | [], b, i => by simp
  | a :: u, b, i => by
    rw [List.foldl_cons, lbits_bit u _ i, or_bit, List.any_cons, Bool.or_assoc]
theorem lbits_at {u : List Int} {i : Nat} : (lbits u).testBit i = u.any (fun a => decide (a.toNat = i)) := by
  unfold lbits
  rw [lbits_bit u 0 i, Nat.zero_testBit, Bool.false_or]
section NC
variable {d : Nat} {M M' L : zM} {Q : Int → zW → Prop} {P R : Nat → Nat} {ws : List (List Int)} {tx : List Int} {hs : List zLw} {kp : zKp} {ls : Nat → Option (List Int)} {rf : Nat → Int}
theorem rp_sub (ho : lOk P R) {u : List Int} (hw : isW u) {k : Nat} (hk : k < u.length) : rp P u k = true ↔ sub0 (lbits (u.take k)) (P (u.getD k 0).toNat) := by
  have ha := isW_at hw hk
  unfold rp
  rw [List.all_eq_true, sub0_bits]
  constructor
  · intro h i hi
    rw [lbits_at, List.any_eq_true] at hi
    obtain ⟨b, hb, e⟩ := hi
    have := h b hb
    have hbl := hw b (List.mem_of_mem_take hb)
    rw [psL_bit ho ha hbl] at this
    rw [← of_decide_eq_true e]; exact this
  · intro h b hb
    have hbl := hw b (List.mem_of_mem_take hb)
    rw [psL_bit ho ha hbl]
    refine h _ ?_
    rw [lbits_at, List.any_eq_true]
    exact ⟨b, hb, decide_eq_true rfl⟩
/-- ready letters, letters that aren't, among the first k -/
def rdK (P : Nat → Nat) (u : List Int) : Nat → Nat
  | 0 => 0
  | k + 1 => if rp P u k then rdK P u k ||| 2 ^ (u.getD k 0).toNat else rdK P u k
def nrK (P : Nat → Nat) (u : List Int) : Nat → List Int
  | 0 => []
  | k + 1 => if rp P u k then nrK P u k else nrK P u k ++ [u.getD k 0]
def plK (P : Nat → Nat) (u : List Int) : Nat → Nat
  | 0 => 0
  | k + 1 => if rp P u k then plK P u k ||| 2 ^ k else plK P u k
theorem rdK_s {u : List Int} {k : Nat} : rdK P u (k + 1) = if rp P u k then rdK P u k ||| 2 ^ (u.getD k 0).toNat else rdK P u k := rfl
theorem nrK_s {u : List Int} {k : Nat} : nrK P u (k + 1) = if rp P u k then nrK P u k else nrK P u k ++ [u.getD k 0] := rfl
theorem plK_s {u : List Int} {k : Nat} : plK P u (k + 1) = if rp P u k then plK P u k ||| 2 ^ k else plK P u k := rfl
theorem fold_rdK (ho : lOk P R) {u : List Int} (hw : isW u) : ∀ k, k ≤ u.length → (u.take k).foldl (rdyS P) (0, 0) = (lbits (u.take k), rdK P u k)
  | 0, _ => rfl
  | k + 1, hk => by
    rw [take_fold (by omega), fold_rdK ho hw k (by omega), lbits_take (by omega), rdK_s]
    unfold rdyS
    dsimp only
    by_cases g : rp P u k = true
    · rw [if_pos g, if_pos (sub0_iff.mpr ((rp_sub ho hw (by omega)).mp g))]
    · rw [if_neg g, if_neg (fun z => g ((rp_sub ho hw (by omega)).mpr z))]
theorem rdy_rdK (ho : lOk P R) {u : List Int} (hw : isW u) : rdy P u = rdK P u u.length := by
  have := fold_rdK ho hw u.length (Nat.le_refl _)
  rw [List.take_of_length_le (Nat.le_refl _)] at this
  unfold rdy
  rw [this]
theorem nrd_nrK (ho : lOk P R) {u : List Int} (hw : isW u) : ∀ k, k ≤ u.length → nrd P 0 u = nrK P u k ++ nrd P (lbits (u.take k)) (u.drop k)
  | 0, _ => by simp [nrK, lbits]
  | k + 1, hk => by
    rw [nrd_nrK ho hw k (by omega), nrK_s, lbits_take (by omega)]
    have hd : u.drop k = u.getD k 0 :: u.drop (k + 1) := by
      rw [List.drop_eq_getElem_cons (by omega), List.getD_eq_getElem?_getD, List.getElem?_eq_getElem (by omega)]; rfl
    rw [hd, nrd_cons]
    by_cases g : rp P u k = true
    · rw [if_pos g, if_pos (sub0_iff.mpr ((rp_sub ho hw (by omega)).mp g))]
    · rw [if_neg g, if_neg (fun z => g ((rp_sub ho hw (by omega)).mpr z))]
      simp
theorem rest_nrK (ho : lOk P R) {u : List Int} (hw : isW u) : rest P u = nrK P u u.length := by
  unfold rest
  rw [nrd_nrK ho hw u.length (Nat.le_refl _), List.drop_of_length_le (Nat.le_refl _)]
  show _ ++ [] = _
  rw [List.append_nil]
theorem nrK_len {u : List Int} : ∀ k, (nrK P u k).length ≤ k
  | 0 => Nat.le_refl _
  | k + 1 => by
    have := nrK_len (u := u) k
    rw [nrK_s]
    split
    · omega
    · rw [List.length_append, List.length_singleton]; omega
theorem rdK_in {u : List Int} {i : Nat} : ∀ k, k ≤ u.length → (rdK P u k).testBit i = true → ∃ b ∈ u.take k, b.toNat = i
  | 0, _, h => by simp [rdK] at h
  | k + 1, hk, h => by
    rw [take_succ_getD (by omega)]
    rw [rdK_s] at h
    split at h
    · rw [or_bit, Bool.or_eq_true] at h
      rcases h with h | h
      · obtain ⟨b, hb, e⟩ := rdK_in k (by omega) h
        exact ⟨b, List.mem_append_left _ hb, e⟩
      · exact ⟨_, List.mem_append_right _ (List.mem_singleton.mpr rfl), of_decide_eq_true h⟩
    · obtain ⟨b, hb, e⟩ := rdK_in k (by omega) h
      exact ⟨b, List.mem_append_left _ hb, e⟩
theorem rdK_lt {u : List Int} (hw : isW u) : ∀ k, k ≤ u.length → rdK P u k < 64
  | 0, _ => by simp [rdK]
  | k + 1, hk => by
    have h1 := rdK_lt hw k (by omega)
    have ha := isW_at hw (show k < u.length by omega)
    have h2 := p6 (a := (u.getD k 0).toNat) (by omega)
    rw [rdK_s]
    split
    · exact Nat.or_lt_two_pow (n := 6) (by omega) (by omega)
    · exact h1
theorem cnt_or {s a : Nat} (h : s.testBit a = false) : ∀ k, cnt (fun i => (s ||| 2 ^ a).testBit i) k = cnt (fun i => s.testBit i) k + (if a < k then 1 else 0)
  | 0 => by simp [cnt]
  | k + 1 => by
    show cnt _ k + _ = cnt _ k + _ + _
    rw [cnt_or h k]
    dsimp only
    by_cases q : a = k
    · subst q
      have e1 : (s ||| 2 ^ a).testBit a = true := by rw [or_bit]; simp
      simp only [e1, h]
      simp
    · have e1 : (s ||| 2 ^ a).testBit k = s.testBit k := by rw [or_bit, decide_eq_false q, Bool.or_false]
      simp only [e1]
      by_cases q2 : a < k
      · rw [if_pos q2, if_pos (show a < k + 1 by omega)]; omega
      · rw [if_neg q2, if_neg (show ¬ a < k + 1 by omega)]; omega
theorem rdK_cnt (ho : lOk P R) {u : List Int} (hw : isW u) : ∀ k, k ≤ u.length → cnt (fun i => (rdK P u k).testBit i) 6 + (nrK P u k).length = k
  | 0, _ => by simp [rdK, nrK, cnt]
  | k + 1, hk => by
    have ih := rdK_cnt ho hw k (by omega)
    have ha := isW_at hw (show k < u.length by omega)
    rw [rdK_s, nrK_s]
    by_cases g : rp P u k = true
    · rw [if_pos g, if_pos g]
      have hn : (rdK P u k).testBit (u.getD k 0).toNat = false := by
        cases q : (rdK P u k).testBit (u.getD k 0).toNat
        · rfl
        · obtain ⟨b, hb, e⟩ := rdK_in k (by omega) q
          have hbl := hw b (List.mem_of_mem_take hb)
          have := List.all_eq_true.mp g b hb
          rw [show u.getD k 0 = b by omega, psL_irr] at this
          cases this
      rw [cnt_or hn, if_pos (by omega)]
      omega
    · rw [if_neg g, if_neg g, List.length_append, List.length_singleton]
      omega
theorem plK_lt {u : List Int} : ∀ k, plK P u k < 2 ^ k
  | 0 => by simp [plK]
  | k + 1 => by
    have h1 := plK_lt (u := u) k
    rw [plK_s]
    split
    · exact Nat.or_lt_two_pow (Nat.lt_of_lt_of_le h1 (Nat.pow_le_pow_right (by omega) (by omega))) (Nat.pow_lt_pow_right (by omega) (by omega))
    · exact Nat.lt_of_lt_of_le h1 (Nat.pow_le_pow_right (by omega) (by omega))
theorem plK_bit {u : List Int} {p : Nat} : ∀ k, p < k → (plK P u k).testBit p = rp P u p
  | 0, h => by omega
  | k + 1, h => by
    rw [plK_s]
    by_cases q : p = k
    · subst q
      have hz : (plK P u p).testBit p = false := Nat.testBit_lt_two_pow (plK_lt p)
      split
      · next g => rw [or_bit, hz, g]; simp
      · next g => rw [hz]; simp at g; exact g.symm
    · have ih := plK_bit (u := u) (p := p) k (by omega)
      split
      · rw [or_bit, decide_eq_false (Ne.symm q), Bool.or_false]; exact ih
      · exact ih
/-! a block -/
theorem mo_block1 {u : List Int} {x2 x3 : Int} (hl : lIs M 112 P R) (ho : lOk P R) (hu : aIs M 128 u) (hw : isW u) (h14 : u.length ≤ 14) (h : zEx (d + 3) m_mo_block zb0 Q 51 ([zR 112, zI (u.length : Int), zI x2, zI x3, zI (plK P u u.length : Int), zI 0], [], SH, M, L)) :
    ∀ (n k : Nat), k + n = u.length → zEx (d + 3) m_mo_block zb0 Q 10 ([zR 112, zI (u.length : Int), zI x2, zI x3, zI (plK P u k : Int), zI (k : Int)], [], SH, M, L) := by
  intro n
  induction n with
  | zero =>
    intro k hk
    have hk : k = u.length := by omega
    subst hk
    refine g_mo_block_10 ?_
    rw [if_neg (by omega)]
    exact h
  | succ n ih =>
    intro k hk
    have e := ih (k + 1) (by omega)
    rw [plK_s] at e
    have hpl := plK_lt (P := P) (u := u) k
    have hp14 := p14 (a := k) (by omega)
    refine g_mo_block_10 ?_
    rw [if_pos (by omega)]
    refine e_mo_isReady zk_128 (by rw [zl_128]; omega) hl ho hu hw (by omega) (g_mo_block_28 ?_)
    rw [zwr_id (by omega) (by omega), show ((k : Int) + 1) = ((k + 1 : Nat) : Int) by omega, zshl_1 (by omega) (by omega), Int.toNat_natCast, zor_nat (by omega) (by omega)]
    by_cases g : rp P u k = true
    · rw [if_pos g] at e
      rw [if_pos g, if_neg (by decide)]
      exact e
    · rw [if_neg g] at e
      rw [if_neg g, if_pos rfl, show zor (plK P u k : Int) 0 = ((plK P u k ||| 0 : Nat) : Int) from zor_nat (b := 0) (by omega) (by omega), Nat.or_zero]
      exact e
theorem mo_block2 {u : List Int} {M0 : zM} (ho : lOk P R) (hw : isW u) (h14 : u.length ≤ 14) (h : ∀ M', aIs M' 128 (rest P u) → cFr [128] M0 M' → Q (rdy P u : Int) (SH, M', L)) :
    ∀ (n k : Nat) (Mk : zM), k + n = u.length → (∀ j, j < (nrK P u k).length → Mk 128 j = (nrK P u k).getD j 0) → (∀ j, k ≤ j → j < u.length → Mk 128 j = u.getD j 0) → cFr [128] M0 Mk → zEx (d + 3) m_mo_block zb0 Q 51 ([zR 112, zI (u.length : Int), zI (rdK P u k : Int), zI ((nrK P u k).length : Int), zI (plK P u u.length : Int), zI (k : Int)], [], SH, Mk, L) := by
  have hpl := plK_lt (P := P) (u := u) u.length
  have hp14 : 2 ^ u.length ≤ 2 ^ 14 := Nat.pow_le_pow_right (by omega) h14
  intro n
  induction n with
  | zero =>
    intro k Mk hk h1 h2 hf
    have hk : k = u.length := by omega
    subst hk
    refine g_mo_block_51 ?_
    rw [if_neg (by omega), ← rdy_rdK ho hw]
    have hln := nrK_len (P := P) (u := u) u.length
    refine h Mk ?_ hf
    rw [rest_nrK ho hw]
    exact ⟨h1, by rw [zl_128]; omega⟩
  | succ n ih =>
    intro k Mk hk h1 h2 hf
    have e := fun M' => ih (k + 1) M' (by omega)
    have hb := plK_bit (P := P) (u := u) (p := k) u.length (by omega)
    have hln := nrK_len (P := P) (u := u) k
    have ha := isW_at hw (show k < u.length by omega)
    have h6 := p6 (a := (u.getD k 0).toNat) (by omega)
    have hrl := rdK_lt (P := P) hw k (by omega)
    rw [rdK_s, nrK_s] at e
    refine g_mo_block_51 ?_
    simp (disch := omega) only [zck_t, if_pos, if_neg, if_true, if_false, zwr_id, Int.toNat_natCast, zbit_if]
    rw [h2 k (by omega) (by omega), zshl_1 ha.1 (by omega), zor_nat (by omega) (by omega), show ((k : Int) + 1) = ((k + 1 : Nat) : Int) by omega, hb]
    by_cases g : rp P u k = true
    · rw [if_pos g]
      rw [if_pos g, if_pos g] at e
      exact e Mk h1 (fun j hj hj2 => h2 j (by omega) hj2) hf
    · rw [if_neg g]
      rw [if_neg g, if_neg g, List.length_append, List.length_singleton] at e
      rw [show ((nrK P u k).length : Int) + 1 = (((nrK P u k).length + 1 : Nat) : Int) by omega]
      refine e _ (fun j hj => ?_) (fun j hj hj2 => ?_) (fun a ha => ?_)
      · rw [getD_snoc]
        by_cases q : j = (nrK P u k).length
        · rw [q, zmu_s, if_neg (by omega), if_pos rfl]
        · rw [zmu_j q, if_pos (by omega)]; exact h1 j (by omega)
      · rw [zmu_j (by omega)]; exact h2 j (by omega) hj2
      · rw [zmu_kf (by simpa using ha)]; exact hf a ha
theorem e_mo_block {u : List Int} (hl : lIs M 112 P R) (ho : lOk P R) (hu : aIs M 128 u) (hw : isW u) (h14 : u.length ≤ 14) (h : ∀ M', aIs M' 128 (rest P u) → cFr [128] M M' → Q (rdy P u : Int) (SH, M', L)) : zEv (d + 3) m_mo_block [zR 112, zI (u.length : Int)] (SH, M, L) Q := by
  refine b_mo_block (g_mo_block_0 (mo_block1 hl ho hu hw h14 ?_ u.length 0 (by omega)))
  exact mo_block2 ho hw h14 h u.length 0 M (by omega) (fun j hj => by simp [nrK] at hj) (fun j _ hj => hu.1 j hj) cFr.rf
theorem mo_blocks_dec {w k x4 : Int} {s n0 : Nat} (hs : s < 64) (hn : n0 ≤ 14) (hc : cnt (fun i => s.testBit i) 6 ≤ n0) (h : zEx (d + 4) m_mo_blocks zb0 Q 40 ([zR 112, zI w, zI k, zI ((n0 - cnt (fun i => s.testBit i) 6 : Nat) : Int), zI x4, zI (s : Int), zI 6], [], SH, M, L)) :
    ∀ (n j : Nat), j + n = 6 → zEx (d + 4) m_mo_blocks zb0 Q 66 ([zR 112, zI w, zI k, zI ((n0 - cnt (fun i => s.testBit i) j : Nat) : Int), zI x4, zI (s : Int), zI (j : Int)], [], SH, M, L) := by
  intro n
  induction n with
  | zero =>
    intro j hj
    have hj : j = 6 := by omega
    subst hj
    refine g_mo_blocks_66 ?_
    rw [if_neg (by decide)]
    exact h
  | succ n ih =>
    intro j hj
    have e := ih (j + 1) (by omega)
    have hmono : cnt (fun i => s.testBit i) (j + 1) ≤ cnt (fun i => s.testBit i) 6 := by
      have : ∀ m, cnt (fun i => s.testBit i) (j + 1) ≤ cnt (fun i => s.testBit i) (j + 1 + m) := by
        intro m
        induction m with
        | zero => exact Nat.le_refl _
        | succ m ihm =>
          refine Nat.le_trans ihm ?_
          show _ ≤ cnt _ (j + 1 + m) + _
          omega
      have := this (5 - j)
      rw [show j + 1 + (5 - j) = 6 by omega] at this
      exact this
    refine g_mo_blocks_66 ?_
    rw [if_pos (by omega), zbit_nat (by omega) (by omega)]
    cases g : s.testBit j
    · rw [cnt_n (p := fun i => s.testBit i) g] at e
      simp only [Bool.false_eq_true, if_false, Int.sub_zero]
      simp (disch := omega) only [zck_t, if_pos, if_neg, if_true, if_false, zwr_id, Int.toNat_natCast]
      rw [show ((j : Int) + 1) = ((j + 1 : Nat) : Int) by omega]
      exact e
    · rw [cnt_s (p := fun i => s.testBit i) g] at e hmono
      simp only [if_true]
      simp (disch := omega) only [zck_t, if_pos, if_neg, if_true, if_false, zwr_id, Int.toNat_natCast]
      rw [show ((j : Int) + 1) = ((j + 1 : Nat) : Int) by omega, show ((n0 - cnt (fun i => s.testBit i) j : Nat) : Int) - 1 = ((n0 - (cnt (fun i => s.testBit i) j + 1) : Nat) : Int) by omega]
      exact e
theorem mo_blocks_loop {w k : Int} {u : List Int} {M0 : zM} (hI : iM M0 P R ws tx hs kp ls rf) (hk : -1 ≤ k) (hu14 : u.length ≤ 14) (h : ∀ M', iM M' P R ws tx hs kp ls rf → aC M0 M' → Q (if k = -1 then ((blks P u.length u).length : Int) else if k < (blks P u.length u).length then (blks P u.length u).getD k.toNat 0 else 0) (SH, M', L)) :
    ∀ (f : Nat) (t v : List Int) (Mk : zM) (v5 v6 : zV), v.length ≤ f → f ≤ 14 → t.length + f ≤ 14 → isW v → (k = -1 ∨ (t.length : Int) ≤ k) → blks P u.length u = t ++ blks P f v → aIs Mk 128 v → cFr [128] M0 Mk → zEx (d + 4) m_mo_blocks zb0 Q 40 ([zR 112, zI w, zI k, zI (v.length : Int), zI (t.length : Int), v5, v6], [], SH, Mk, L) := by
  have fin : ∀ (t : List Int) (Mk : zM), (k = -1 ∨ (t.length : Int) ≤ k) → blks P u.length u = t → cFr [128] M0 Mk → (if k = -1 then Q (t.length : Int) (SH, Mk, L) else Q 0 (SH, Mk, L)) := by
    intro t Mk hkt he hf
    have J := hI.cx hf (by decide)
    have e := h Mk J.1 J.2
    rw [he] at e
    by_cases g : k = -1
    · rw [if_pos g] at e ⊢; exact e
    · rw [if_neg g, if_neg (by omega)] at e
      rw [if_neg g]; exact e
  intro f
  induction f with
  | zero =>
    intro t v Mk v5 v6 hv hf14 ht hw hkt he hu hf
    refine g_mo_blocks_40 ?_
    rw [if_neg (by omega)]
    rw [show blks P 0 v = [] from rfl, List.append_nil] at he
    exact fin t Mk hkt he hf
  | succ f ih =>
    intro t v Mk v5 v6 hv hf14 ht hw hkt he hu hf
    refine g_mo_blocks_40 ?_
    rw [blks_s] at he
    by_cases q : v = []
    · rw [if_pos q, List.append_nil] at he
      rw [if_neg (by rw [q]; simp)]
      exact fin t Mk hkt he hf
    · rw [if_neg q] at he
      have hv0 := List.length_pos_iff.mpr q
      rw [if_pos (by omega)]
      have J := hI.cx hf (by decide)
      refine e_mo_block J.1.l hI.lo hu hw (by omega) (fun M1 m1 f1 => g_mo_blocks_49 ?_)
      have hf1 := hf.tr f1
      have J1 := hI.cx hf1 (by decide)
      by_cases g : (t.length : Int) = k
      · rw [if_pos g]
        have e := h M1 J1.1 J1.2
        rw [if_neg (by omega), if_pos (by rw [he, List.length_append, List.length_cons]; omega), he, ← g, Int.toNat_natCast] at e
        have e3 := getD_app_r (u := t) (v := (rdy P v : Int) :: blks P f (rest P v)) (j := 0)
        rw [Nat.add_zero] at e3
        rw [e3] at e
        exact e
      · rw [if_neg g]
        have hc := rdK_cnt hI.lo hw v.length (Nat.le_refl _)
        rw [← rdy_rdK hI.lo hw, ← rest_nrK hI.lo hw] at hc
        have hrl := rest_len (P := P) q
        have := mo_blocks_dec (d := d) (Q := Q) (L := L) (M := M1) (w := w) (k := k) (x4 := zwr ((t.length : Int) + 1)) (s := rdy P v) (n0 := v.length) (rdy_lt hw) (by omega) (by omega) ?_ 6 0 (by omega)
        · exact this
        · rw [show v.length - cnt (fun i => (rdy P v).testBit i) 6 = (rest P v).length by omega, zwr_id (by omega) (by omega)]
          have e2 := ih (t ++ [(rdy P v : Int)]) (rest P v) M1 (zI (rdy P v : Int)) (zI 6) (by omega) (by omega) (by simp; omega) (rest_isW hI.lo hw) (by simp; omega) (by rw [he]; simp) m1 hf1
          rw [List.length_append, List.length_singleton, show ((t.length + 1 : Nat) : Int) = (t.length : Int) + 1 by omega] at e2
          exact e2
theorem c_mo_blocks {w k : Int} (hI : iM M P R ws tx hs kp ls rf) (h : ∀ M1 L1, jM M1 (opBlocks P R ws tx hs kp ls rf w k).1 → aC M M1 → Q (opBlocks P R ws tx hs kp ls rf w k).2 (SH, M1, L1)) : zEv (d + 9) m_mo_blocks [zR 112, zI w, zI k] (SH, M, L) Q := by
  unfold opBlocks at h
  refine b_mo_blocks ?_
  (first | refine g_mo_blocks_0 ?_ | refine g_mo_blocks_5 ?_ | refine g_mo_blocks_13 ?_ | refine g_mo_blocks_25 ?_ | refine g_mo_blocks_36 ?_ | refine g_mo_blocks_40 ?_ | refine g_mo_blocks_49 ?_ | refine g_mo_blocks_66 ?_)
  refine e_mo_isWord hI.s ?_
  (first | refine g_mo_blocks_0 ?_ | refine g_mo_blocks_5 ?_ | refine g_mo_blocks_13 ?_ | refine g_mo_blocks_25 ?_ | refine g_mo_blocks_36 ?_ | refine g_mo_blocks_40 ?_ | refine g_mo_blocks_49 ?_ | refine g_mo_blocks_66 ?_)
  by_cases g : wd ws w
  · obtain ⟨w1, w2, w3, w4, w5⟩ := hI.w g
    rw [if_pos g] at h ⊢
    rw [if_neg (by decide)]
    by_cases g2 : k < -1
    · rw [if_pos g2] at h ⊢
      (refine e_mo_noI (k := 4) hI (by omega) (fun M1 I f => ?_); (first | refine g_mo_blocks_0 ?_ | refine g_mo_blocks_5 ?_ | refine g_mo_blocks_13 ?_ | refine g_mo_blocks_25 ?_ | refine g_mo_blocks_36 ?_ | refine g_mo_blocks_40 ?_ | refine g_mo_blocks_49 ?_ | refine g_mo_blocks_66 ?_); exact h M1 L I f)
    · rw [if_neg g2] at h ⊢
      refine e_mo_load hI g (Or.inl rfl) (fun M1 m1 I1 f1 => ?_)
      (first | refine g_mo_blocks_0 ?_ | refine g_mo_blocks_5 ?_ | refine g_mo_blocks_13 ?_ | refine g_mo_blocks_25 ?_ | refine g_mo_blocks_36 ?_ | refine g_mo_blocks_40 ?_ | refine g_mo_blocks_49 ?_ | refine g_mo_blocks_66 ?_)
      refine mo_blocks_loop (d := d + 5) I1 (by omega) w2 (fun M2 I2 f2 => ?_) (gw ws w).length [] (gw ws w) M1 zN zN (by omega) w2 (by simpa using w2) w3 (by simp; omega) rfl m1 cFr.rf
      have fa := (f1.aC (by decide)).tr f2
      by_cases g3 : k = -1
      · rw [if_pos g3] at h ⊢
        exact h M2 L I2 fa
      · rw [if_neg g3] at h ⊢
        exact h M2 L I2 fa
  · rw [if_neg g] at h ⊢
    rw [if_pos rfl]
    (refine e_mo_noI (k := 1) hI (by omega) (fun M1 I f => ?_); (first | refine g_mo_blocks_0 ?_ | refine g_mo_blocks_5 ?_ | refine g_mo_blocks_13 ?_ | refine g_mo_blocks_25 ?_ | refine g_mo_blocks_36 ?_ | refine g_mo_blocks_40 ?_ | refine g_mo_blocks_49 ?_ | refine g_mo_blocks_66 ?_); exact h M1 L I f)
/-! the ready place of a letter -/
theorem mo_place_loop {r : Nat} {u : List Int} {a : Int} (hr : zkd SH r = 20) (hz : zln SH r ≤ 20000) (hl : lIs M 112 P R) (ho : lOk P R) (hu : aIs M r u) (hw : isW u) (h0 : tk (psL P) a u = none → Q (-9) (SH, M, L)) (h1 : ∀ p : Nat, p < u.length → tk (psL P) a u = some (u.take p ++ u.drop (p + 1)) → Q (p : Int) (SH, M, L)) :
    ∀ (n k : Nat), k + n = u.length → (∀ j, j < k → u.getD j 0 ≠ a) → zEx (d + 3) m_mo_placeOf zb0 Q 3 ([zR 112, zR r, zI (u.length : Int), zI a, zI (k : Int)], [], SH, M, L) := by
  have hul := hu.2
  intro n
  induction n with
  | zero =>
    intro k hk hall
    refine g_mo_placeOf_3 hr ?_
    rw [if_neg (by omega)]
    refine h0 ?_
    cases q : tk (psL P) a u with
    | none => rfl
    | some v =>
      obtain ⟨j, c1, c2, _⟩ := tk_place q
      exact absurd c2 (hall j (by omega))
  | succ n ih =>
    intro k hk hall
    refine g_mo_placeOf_3 hr ?_
    simp (disch := omega) only [zck_t, if_pos, if_neg, if_true, if_false, zwr_id, Int.toNat_natCast]
    rw [hu.1 k (by omega), show ((k : Int) + 1) = ((k + 1 : Nat) : Int) by omega]
    refine zif_c (fun e => e_mo_isReady hr hz hl ho hu hw (by omega) (g_mo_placeOf_24 hr ?_)) (fun e => ?_)
    · by_cases g : rp P u k = true
      · rw [if_pos g, if_neg (by decide)]
        refine h1 k (by omega) ?_
        have := tk_at (psL_irr P) u k (by omega) g
        rw [e] at this
        exact this
      · rw [if_neg g, if_pos rfl]
        refine h0 ?_
        cases q : tk (psL P) a u with
        | none => rfl
        | some v =>
          obtain ⟨j, c1, c2, c3⟩ := tk_place q
          rcases Nat.lt_trichotomy j k with z | z | z
          · exact absurd c2 (hall j z)
          · subst z
            exact absurd (by unfold rp; rw [c2]; exact c3) g
          · have := List.all_eq_true.mp c3 (u.getD k 0) (by
              rw [List.getD_eq_getElem?_getD, List.getElem?_eq_getElem (by omega)]
              exact List.mem_take_iff_getElem.mpr ⟨k, by omega, rfl⟩)
            rw [e, psL_irr] at this
            cases this
    · refine ih (k + 1) (by omega) (fun j hj => ?_)
      by_cases z : j = k
      · rw [z]; exact e
      · exact hall j (by omega)
theorem e_mo_placeOf {r : Nat} {u : List Int} {a : Int} (hr : zkd SH r = 20) (hz : zln SH r ≤ 20000) (hl : lIs M 112 P R) (ho : lOk P R) (hu : aIs M r u) (hw : isW u) (h0 : tk (psL P) a u = none → Q (-9) (SH, M, L)) (h1 : ∀ p : Nat, p < u.length → tk (psL P) a u = some (u.take p ++ u.drop (p + 1)) → Q (p : Int) (SH, M, L)) : zEv (d + 3) m_mo_placeOf [zR 112, zR r, zI (u.length : Int), zI a] (SH, M, L) Q :=
  b_mo_placeOf (g_mo_placeOf_0 hr (mo_place_loop hr hz hl ho hu hw h0 h1 u.length 0 (by omega) (fun j hj => by omega)))
end NC
