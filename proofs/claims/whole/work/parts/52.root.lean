/-! the reference: roots -/
section RA
variable {d : Nat} {M M' L : zM} {Q : Int → zW → Prop} {P R : Nat → Nat} {ws : List (List Int)} {tx : List Int} {hs : List zLw} {kp : zKp} {ls : Nat → Option (List Int)} {rf : Nat → Int}
theorem count_snoc {v : List Int} {a b : Int} : (v ++ [a]).count b = v.count b + (if a = b then 1 else 0) := by
  rw [List.count_append]
  by_cases q : a = b
  · subst q; rw [List.count_singleton_self, if_pos rfl]
  · have e : List.count b [a] = 0 := List.count_eq_zero.mpr (by simp; exact fun z => q z.symm)
    rw [if_neg q, e]
theorem shrS_eq {u s : List Int} {k : Nat} {a : Int} : shrS u k s a = if s.count a < u.count a / k then s ++ [a] else s := rfl
theorem shr_min {u : List Int} {k : Nat} {b : Int} : ∀ j, j ≤ u.length → ((u.take j).foldl (shrS u k) []).count b = min ((u.take j).count b) (u.count b / k)
  | 0, _ => by simp
  | j + 1, hj => by
    have ih := shr_min (u := u) (k := k) (b := b) j (by omega)
    rw [take_fold (by omega), take_succ_getD (by omega), count_snoc]
    rw [shrS_eq]
    by_cases q : u.getD j 0 = b
    · subst q
      rw [if_pos rfl]
      split
      · next g => rw [count_snoc, if_pos rfl]; omega
      · next g => omega
    · rw [if_neg q]
      split
      · rw [count_snoc, if_neg q]; omega
      · omega
theorem shr_cnt {u : List Int} {k : Nat} (b : Int) : (shr u k).count b = u.count b / k := by
  have := shr_min (u := u) (k := k) (b := b) u.length (Nat.le_refl _)
  rw [List.take_of_length_le (Nat.le_refl _)] at this
  unfold shr
  rw [this]
  have := Nat.div_le_self (u.count b) k
  omega
theorem shr_len_eq {u : List Int} {k : Nat} (hw : isW u) (h : dvA u k) : k * (shr u k).length = u.length := by
  rw [len_counts _ (shr_isW hw), len_counts u hw, shr_cnt, shr_cnt, shr_cnt, shr_cnt, shr_cnt, shr_cnt]
  have e : ∀ a : Nat, a < 6 → k * (u.count (a : Int) / k) = u.count (a : Int) := fun a ha => Nat.mul_div_cancel' (Nat.dvd_of_mod_eq_zero (h a ha))
  have e0 : k * (u.count 0 / k) = u.count 0 := e 0 (by omega)
  have e1 : k * (u.count 1 / k) = u.count 1 := e 1 (by omega)
  have e2 : k * (u.count 2 / k) = u.count 2 := e 2 (by omega)
  have e3 : k * (u.count 3 / k) = u.count 3 := e 3 (by omega)
  have e4 : k * (u.count 4 / k) = u.count 4 := e 4 (by omega)
  have e5 : k * (u.count 5 / k) = u.count 5 := e 5 (by omega)
  simp only [Nat.mul_add]
  omega
theorem shr_1 {u : List Int} : ∀ j, j ≤ u.length → (u.take j).foldl (shrS u 1) [] = u.take j
  | 0, _ => by simp
  | j + 1, hj => by
    rw [take_fold (by omega), shr_1 j (by omega), take_succ_getD (by omega)]
    rw [shrS_eq, Nat.div_one, if_pos]
    have e : u = u.take (j + 1) ++ u.drop (j + 1) := (List.take_append_drop _ _).symm
    have e2 : u.count (u.getD j 0) = (u.take (j + 1)).count (u.getD j 0) + (u.drop (j + 1)).count (u.getD j 0) := by
      rw [← List.count_append, List.take_append_drop]
    rw [e2, take_succ_getD (by omega), count_snoc, if_pos rfl]
    omega
theorem isPw_1 {u : List Int} : isPw P R u 1 := by
  refine ⟨fun a _ => Nat.mod_one _, ?_⟩
  have := shr_1 (u := u) u.length (Nat.le_refl _)
  rw [List.take_of_length_le (Nat.le_refl _)] at this
  have e : shr u 1 = u := this
  rw [e]
  have : rpt 1 u = u := by unfold rpt; simp
  rw [this]
/-- of a word: what rootBy needs -/
theorem mo_rb1 {w k : Int} (h : ∀ M', (∀ a, a < 6 → M' 137 a = 0) → cFr [137] M M' → zEx (d + 1) m_mo_rootBy zb0 Q 23 ([zR 112, zI w, zI k, zI 0, zN, zN], [], SH, M', L)) :
    ∀ (n a : Nat) (Mk : zM), a + n = 6 → (∀ b, b < a → Mk 137 b = 0) → cFr [137] M Mk → zEx (d + 1) m_mo_rootBy zb0 Q 2 ([zR 112, zI w, zI k, zI (a : Int), zN, zN], [], SH, Mk, L) := by
  intro n
  induction n with
  | zero =>
    intro a Mk ha h1 hf
    refine g_mo_rootBy_2 ?_
    rw [if_neg (by omega)]
    exact h Mk (fun b hb => h1 b (by omega)) hf
  | succ n ih =>
    intro a Mk ha h1 hf
    refine g_mo_rootBy_2 ?_
    simp (disch := omega) only [zck_t, if_pos, if_neg, if_true, if_false, zwr_id, Int.toNat_natCast]
    rw [show ((a : Int) + 1) = ((a + 1 : Nat) : Int) by omega]
    refine ih (a + 1) _ (by omega) (fun b hb => ?_) (fun c hc => ?_)
    · by_cases e : b = a
      · rw [e, zmu_s]
      · rw [zmu_j e]; exact h1 b (by omega)
    · rw [zmu_kf (by simpa using hc)]; exact hf c hc
theorem mo_rb2 {w k : Int} {M0 : zM} (hI : iM M0 P R ws tx hs kp ls rf) (g : wd ws w) (h : ∀ M', (∀ a : Nat, a < 6 → M' 137 a = ((gw ws w).count (a : Int) : Int)) → cFr [137] M0 M' → zEx (d + 1) m_mo_rootBy zb0 Q 61 ([zR 112, zI w, zI k, zI 0, zN, zN], [], SH, M', L)) :
    ∀ (n j : Nat) (Mk : zM), j + n = (gw ws w).length → (∀ a : Nat, a < 6 → Mk 137 a = (((gw ws w).take j).count (a : Int) : Int)) → cFr [137] M0 Mk → zEx (d + 1) m_mo_rootBy zb0 Q 23 ([zR 112, zI w, zI k, zI (j : Int), zN, zN], [], SH, Mk, L) := by
  obtain ⟨w1, w2, w3, w4, w5⟩ := hI.w g
  intro n
  induction n with
  | zero =>
    intro j Mk hj h1 hf
    refine g_mo_rootBy_23 ?_
    rw [hf 115 (by decide), w1, zck_t (by omega), if_neg (by omega)]
    rw [List.take_of_length_le (by omega)] at h1
    exact h Mk h1 hf
  | succ n ih =>
    intro j Mk hj h1 hf
    have ha := isW_at w3 (show j < (gw ws w).length by omega)
    refine g_mo_rootBy_23 ?_
    rw [hf 115 (by decide), hf 116 (by decide), w1]
    simp (disch := omega) only [zck_t, if_pos, if_neg, if_true, if_false, zwr_id, Int.toNat_natCast]
    rw [show (14 * w + (j : Int)).toNat = 14 * w.toNat + j by omega, w4 j (by omega), zck_t ha, zck_t ha]
    have e0 := h1 ((gw ws w).getD j 0).toNat (by omega)
    rw [Int.toNat_of_nonneg ha.1] at e0
    have hc : ((gw ws w).take j).count ((gw ws w).getD j 0) ≤ j := Nat.le_trans List.count_le_length (by rw [List.length_take]; omega)
    rw [e0, zwr_id (by omega) (by omega), show ((j : Int) + 1) = ((j + 1 : Nat) : Int) by omega]
    refine ih (j + 1) _ (by omega) (fun a ha6 => ?_) (fun c hc => ?_)
    · rw [take_succ_getD (by omega), count_snoc]
      by_cases e : a = ((gw ws w).getD j 0).toNat
      · rw [e, zmu_s, Int.toNat_of_nonneg ha.1, if_pos rfl]; omega
      · rw [zmu_j e, if_neg (by omega), h1 a ha6]; omega
    · rw [zmu_kf (by simpa using hc)]; exact hf c hc
theorem mo_rb3 {w : Int} {u : List Int} {k : Nat} (hk : 1 ≤ k) (hk14 : k ≤ 14) (hu14 : u.length ≤ 14) {M0 : zM} (h0 : ∀ a : Nat, a < 6 → M0 137 a = (u.count (a : Int) : Int)) (h9 : ¬ dvA u k → ∀ M', cFr [137] M0 M' → Q (-9) (SH, M', L))
    (h : dvA u k → ∀ M', (∀ a : Nat, a < 6 → M' 137 a = ((u.count (a : Int) / k : Nat) : Int)) → cFr [137] M0 M' → zEx (d + 1) m_mo_rootBy zb0 Q 102 ([zR 112, zI w, zI (k : Int), zI 0, zI 0, zN], [], SH, M', L)) :
    ∀ (n a : Nat) (Mk : zM), a + n = 6 → (∀ b : Nat, b < a → u.count (b : Int) % k = 0) → (∀ b : Nat, b < a → Mk 137 b = ((u.count (b : Int) / k : Nat) : Int)) → (∀ b : Nat, a ≤ b → b < 6 → Mk 137 b = (u.count (b : Int) : Int)) → cFr [137] M0 Mk → zEx (d + 1) m_mo_rootBy zb0 Q 61 ([zR 112, zI w, zI (k : Int), zI (a : Int), zN, zN], [], SH, Mk, L) := by
  intro n
  induction n with
  | zero =>
    intro a Mk ha hd h1 h2 hf
    refine g_mo_rootBy_61 ?_
    rw [if_neg (by omega)]
    exact h (fun b hb => hd b (by omega)) Mk (fun b hb => h1 b (by omega)) hf
  | succ n ih =>
    intro a Mk ha hd h1 h2 hf
    have hcl : u.count (a : Int) ≤ u.length := List.count_le_length
    refine g_mo_rootBy_61 ?_
    rw [Int.toNat_natCast, h2 a (by omega) (by omega), zrem_nat (by omega) (by omega) (by omega), zdiv_nat (by omega) (by omega) (by omega)]
    simp (disch := omega) only [zck_t, if_pos, if_neg, if_true, if_false, zwr_id, Int.toNat_natCast]
    rw [show ((a : Int) + 1) = ((a + 1 : Nat) : Int) by omega]
    by_cases g : u.count (a : Int) % k = 0
    · rw [if_pos (by omega)]
      refine ih (a + 1) _ (by omega) (fun b hb => ?_) (fun b hb => ?_) (fun b hb hb2 => ?_) (fun c hc => ?_)
      · by_cases e : b = a
        · rw [e]; exact g
        · exact hd b (by omega)
      · by_cases e : b = a
        · rw [e, zmu_s]
        · rw [zmu_j e]; exact h1 b (by omega)
      · rw [zmu_j (by omega)]; exact h2 b (by omega) hb2
      · rw [zmu_kf (by simpa using hc)]; exact hf c hc
    · rw [if_neg (by omega)]
      exact h9 (fun z => g (z a (by omega))) Mk hf
theorem mo_rb4 {w : Int} {k : Nat} {M0 : zM} (hI : iM M0 P R ws tx hs kp ls rf) (g : wd ws w) (h : ∀ M', aIs M' 129 (shr (gw ws w) k) → cFr [129, 137] M0 M' → Q ((shr (gw ws w) k).length : Int) (SH, M', L)) :
    ∀ (n j : Nat) (Mk : zM) (v5 : zV), j + n = (gw ws w).length → (∀ a : Nat, a < 6 → Mk 137 a = (((gw ws w).count (a : Int) / k : Nat) : Int) - ((((gw ws w).take j).foldl (shrS (gw ws w) k) []).count (a : Int) : Int)) → aIs Mk 129 (((gw ws w).take j).foldl (shrS (gw ws w) k) []) → cFr [129, 137] M0 Mk →
      zEx (d + 1) m_mo_rootBy zb0 Q 102 ([zR 112, zI w, zI (k : Int), zI ((((gw ws w).take j).foldl (shrS (gw ws w) k) []).length : Int), zI (j : Int), v5], [], SH, Mk, L) := by
  obtain ⟨w1, w2, w3, w4, w5⟩ := hI.w g
  intro n
  induction n with
  | zero =>
    intro j Mk v5 hj h1 hu hf
    refine g_mo_rootBy_102 ?_
    rw [hf 115 (by decide), w1, zck_t (by omega), if_neg (by omega)]
    rw [List.take_of_length_le (by omega)] at hu ⊢
    exact h Mk hu hf
  | succ n ih =>
    intro j Mk v5 hj h1 hu hf
    have ha := isW_at w3 (show j < (gw ws w).length by omega)
    have hl := fold_len (u := gw ws w) (k := k) ((gw ws w).take j) []
    rw [List.length_take, List.length_nil] at hl
    have e := fun M' v5 => ih (j + 1) M' v5 (by omega)
    rw [take_fold (by omega)] at e
    have e0 := h1 ((gw ws w).getD j 0).toNat (by omega)
    rw [Int.toNat_of_nonneg ha.1] at e0
    have hcl := fold_count (u := gw ws w) (k := k) (b := (gw ws w).getD j 0) ((gw ws w).take j) [] (by simp)
    have hcu : (gw ws w).count ((gw ws w).getD j 0) ≤ (gw ws w).length := List.count_le_length
    have hdl := Nat.div_le_self ((gw ws w).count ((gw ws w).getD j 0)) k
    refine g_mo_rootBy_102 ?_
    rw [hf 115 (by decide), hf 116 (by decide), w1]
    simp (disch := omega) only [zck_t, if_pos, if_neg, if_true, if_false, zwr_id, Int.toNat_natCast]
    rw [show (14 * w + (j : Int)).toNat = 14 * w.toNat + j by omega, w4 j (by omega), zck_t ha, zck_t ha, zck_t ha, e0, show ((j : Int) + 1) = ((j + 1 : Nat) : Int) by omega]
    rw [shrS_eq] at e
    by_cases g2 : ((gw ws w).take j |>.foldl (shrS (gw ws w) k) []).count ((gw ws w).getD j 0) < (gw ws w).count ((gw ws w).getD j 0) / k
    · rw [if_pos g2] at e
      rw [if_neg (by omega)]
      simp (disch := omega) only [zck_t, if_pos, if_neg, if_true, if_false, zwr_id, Int.toNat_natCast]
      have e2 := e (zmu (zmu Mk 137 ((gw ws w).getD j 0).toNat ((((gw ws w).count ((gw ws w).getD j 0) / k : Nat) : Int) - ((((gw ws w).take j).foldl (shrS (gw ws w) k) []).count ((gw ws w).getD j 0) : Int) - 1)) 129 (((gw ws w).take j).foldl (shrS (gw ws w) k) []).length ((gw ws w).getD j 0)) (zI ((gw ws w).getD j 0)) (fun a ha6 => ?_) ⟨fun i hi => ?_, by rw [zl_129, List.length_append, List.length_singleton]; omega⟩ (fun c hc => ?_)
      · rw [List.length_append, List.length_singleton, Int.natCast_add] at e2
        exact e2
      · rw [zmu_k (by decide), count_snoc]
        by_cases z : a = ((gw ws w).getD j 0).toNat
        · rw [z, zmu_s, Int.toNat_of_nonneg ha.1, if_pos rfl]
          omega
        · rw [zmu_j z, if_neg (by omega), h1 a ha6]
          omega
      · rw [getD_snoc]
        by_cases z : i = (((gw ws w).take j).foldl (shrS (gw ws w) k) []).length
        · rw [z, zmu_s, if_neg (by omega), if_pos rfl]
        · rw [List.length_append, List.length_singleton] at hi
          have hi2 : i < (((gw ws w).take j).foldl (shrS (gw ws w) k) []).length := by omega
          rw [zmu_j z, zmu_kf (by decide), if_pos hi2]
          exact hu.1 i hi2
      · simp at hc
        rw [zmu_kf hc.1, zmu_kf hc.2]; exact hf c (by simp; exact hc)
    · rw [if_neg g2] at e
      rw [if_pos (by omega)]
      exact e Mk _ h1 hu hf
theorem e_mo_rootBy {w : Int} {k : Nat} (hk : 1 ≤ k) (hk14 : k ≤ 14) (hI : iM M P R ws tx hs kp ls rf) (g : wd ws w) (h9 : ¬ dvA (gw ws w) k → ∀ M', cFr [129, 137] M M' → Q (-9) (SH, M', L)) (h : dvA (gw ws w) k → ∀ M', aIs M' 129 (shr (gw ws w) k) → cFr [129, 137] M M' → Q ((shr (gw ws w) k).length : Int) (SH, M', L)) : zEv (d + 1) m_mo_rootBy [zR 112, zI w, zI (k : Int)] (SH, M, L) Q := by
  obtain ⟨w1, w2, w3, w4, w5⟩ := hI.w g
  refine b_mo_rootBy (g_mo_rootBy_0 (mo_rb1 (fun M1 a1 f1 => ?_) 6 0 M (by omega) (fun b hb => by omega) cFr.rf))
  have I1 := (hI.cx f1 (by decide)).1
  refine mo_rb2 I1 g (fun M2 a2 f2 => ?_) (gw ws w).length 0 M1 (by omega) (fun a ha => by rw [a1 a ha]; simp) cFr.rf
  have I2 := (I1.cx f2 (by decide)).1
  refine mo_rb3 hk hk14 w2 a2 (fun q M3 f3 => h9 q M3 ((f1.up (by decide)).tr ((f2.up (by decide)).tr (f3.up (by decide))))) (fun q M3 a3 f3 => ?_) 6 0 M2 (by omega) (fun b hb => by omega) (fun b hb => by omega) (fun b _ hb => a2 b hb) cFr.rf
  have I3 := (I2.cx f3 (by decide)).1
  exact mo_rb4 I3 g (fun M4 a4 f4 => h q M4 a4 ((f1.up (by decide)).tr ((f2.up (by decide)).tr ((f3.up (by decide)).tr f4)))) (gw ws w).length 0 M3 zN (by omega) (fun a ha => by rw [a3 a ha]; simp) ⟨fun i hi => by simp at hi, by rw [zl_129]; simp⟩ cFr.rf
end RA
