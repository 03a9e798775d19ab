/-! the class's search: small steps -/
theorem zl102 : zln SH 102 = 7 := by decide +kernel
theorem zl104 : zln SH 104 = 7 := by decide +kernel
section TU
variable {d : Nat} {M M' L : zM} {Q : Int → zW → Prop} {P R : Nat → Nat} {u w : List Int} {r : Nat} {bf : List (List Int × Nat)}
theorem or8 {c a : Nat} (h : a < 8) : c * 8 ||| a = c * 8 + a := by
  have := Nat.two_pow_add_eq_or_of_lt (i := 3) (b := a) (by omega) c
  rw [show 2 ^ 3 * c = c * 8 by omega] at this
  exact this.symm
theorem tu_cd (hr : zRow r) (hu : rIs M r w) (hw : isW w) (h7 : w.length ≤ 7) (h : Q (cod w : Int) (SH, M, L)) : ∀ (n j : Nat), j + n = w.length → zEx (d + 2) m_tu_codeOf zb0 Q 4 ([zR r, zI (cod (w.take j) : Int), zI (j : Int)], [], SH, M, L) := by
  intro n
  induction n with
  | zero =>
    intro j hj
    refine g_tu_codeOf_4 hr (e_ro_size hr hu (g_tu_codeOf_9 hr ?_))
    rw [if_neg (by omega), List.take_of_length_le (by omega)]
    exact h
  | succ n ih =>
    intro j hj
    have hl := isW_at hw (show j < w.length by omega)
    have hb := (cod_b hw j (by omega)).2
    have h8 : 8 ^ j ≤ 8 ^ 6 := Nat.pow_le_pow_right (by omega) (by omega)
    have h86 : (8 : Nat) ^ 6 = 262144 := by decide
    refine g_tu_codeOf_4 hr (e_ro_size hr hu (g_tu_codeOf_9 hr ?_))
    rw [if_pos (by omega), if_pos (by omega)]
    refine e_ro_get hr hu (g_tu_codeOf_26 hr ?_)
    rw [rget_in (by omega), Int.toNat_natCast, show zshl (cod (w.take j) : Int) 3 = ((cod (w.take j) * 2 ^ 3 : Nat) : Int) from zshl_nat (k := 3) (by omega) (by omega), show w.getD j 0 = (((w.getD j 0).toNat : Nat) : Int) by omega, zor_nat (by omega) (by omega), show (2 : Nat) ^ 3 = 8 from rfl, or8 (by omega), ← cod_s (by omega), zwr_id (by omega) (by omega), show ((j : Int) + 1) = ((j + 1 : Nat) : Int) by omega]
    exact ih (j + 1) (by omega)
theorem e_tu_codeOf (hr : zRow r) (hu : rIs M r w) (hw : isW w) (h7 : w.length ≤ 7) (h : Q (cod w : Int) (SH, M, L)) : zEv (d + 2) m_tu_codeOf [zR r] (SH, M, L) Q :=
  b_tu_codeOf (g_tu_codeOf_0 hr (tu_cd hr hu hw h7 h w.length 0 (by omega)))
theorem tu_dc {M0 : zM} (hw : isW w) (h7 : w.length ≤ 7) (h : ∀ M', rIs M' 101 w → cFr [101, 102] M0 M' → Q 0 (SH, M', L)) : ∀ (n j : Nat) (Mk : zM), j + n = w.length → rIs Mk 101 (w.take j) → cFr [101, 102] M0 Mk → zEx (d + 2) m_tu_decode zb0 Q 14 ([zR 97, zI (cod w : Int), zI ((n : Int) - 1)], [], SH, Mk, L) := by
  have hz := zRow_101
  intro n
  induction n with
  | zero =>
    intro j Mk hj h1 hf
    refine g_tu_decode_14 ?_
    rw [if_pos (by omega)]
    rw [List.take_of_length_le (by omega)] at h1
    exact h Mk h1 hf
  | succ n ih =>
    intro j Mk hj h1 hf
    have hl := isW_at hw (show j < w.length by omega)
    have hc := cod_7 hw h7
    refine g_tu_decode_14 ?_
    rw [if_neg (by omega), show ((n + 1 : Nat) : Int) - 1 = (n : Int) by omega, zwr_id (by omega) (by omega), show (3 : Int) * (n : Int) = ((3 * n : Nat) : Int) by omega, zshr_nat (by omega) (by omega)]
    have hd := Nat.div_le_self (cod w) (2 ^ (3 * n))
    have e : zand ((cod w / 2 ^ (3 * n) : Nat) : Int) 7 = w.getD j 0 := by
      rw [show zand ((cod w / 2 ^ (3 * n) : Nat) : Int) 7 = ((cod w / 2 ^ (3 * n) &&& 7 : Nat) : Int) from zand_nat (b := 7) (by omega), show (7 : Nat) = 2 ^ 3 - 1 from rfl, Nat.and_two_pow_sub_one_eq_mod, Nat.pow_mul, show (2 : Nat) ^ 3 = 8 from rfl, cod_div hw n (by omega), show w.length - n = j + 1 by omega, cod_s (by omega)]
      omega
    rw [e]
    refine e_ro_add hz h1 (fun M1 a1 f1 => g_tu_decode_33 ?_)
    rw [if_pos (by rw [zl102, List.length_take]; omega), ← take_succ_getD (by omega)] at a1
    rw [zwr_id (by omega) (by omega), show (n : Int) + -1 = (n : Int) - 1 by omega]
    exact ih (j + 1) M1 (by omega) a1 (hf.tr (f1.c (by decide) (by decide)))
theorem e_tu_decode (hw : isW w) (h7 : w.length ≤ 7) (hl : M 97 9 = (w.length : Int)) (h : ∀ M', rIs M' 101 w → cFr [101, 102] M M' → Q 0 (SH, M', L)) : zEv (d + 2) m_tu_decode [zR 97, zI (cod w : Int)] (SH, M, L) Q := by
  have hz := zRow_101
  refine b_tu_decode (g_tu_decode_0 (e_ro_clear hz (fun M1 a1 f1 => g_tu_decode_7 ?_)))
  rw [f1 97 (by decide) (by decide), hl, zwr_id (by omega) (by omega)]
  exact tu_dc hw h7 h w.length 0 M1 (by omega) (by rw [List.take_zero]; exact a1) (f1.c (by decide) (by decide))
/-- the codes that were found -/
def tB (M : zM) (bf : List (List Int × Nat)) : Prop := M 97 8 = (bf.length : Int) ∧ bf.length ≤ 64 ∧ ∀ i, i < bf.length → M 105 i = (cod (bw bf i) : Int) ∧ M 106 i = (bm bf i : Int)
theorem tB.of (h : tB M bf) (g : ∀ k, k ∈ [97, 105, 106] → M' k = M k) : tB M' bf := by
  refine ⟨by rw [g 97 (by decide)]; exact h.1, h.2.1, fun i hi => ?_⟩
  rw [g 105 (by decide), g 106 (by decide)]
  exact h.2.2 i hi
theorem tu_fd {c : Nat} (ht : tB M bf) (h1 : ∀ i, i < bf.length → cod (bw bf i) = c → Q (i : Int) (SH, M, L)) (h2 : (∀ i, i < bf.length → cod (bw bf i) ≠ c) → Q (-9) (SH, M, L)) : ∀ (n j : Nat), j + n = bf.length → (∀ i, i < j → cod (bw bf i) ≠ c) → zEx (d + 1) m_tu_find zb0 Q 2 ([zR 97, zI (c : Int), zI (j : Int)], [], SH, M, L) := by
  have h64 := ht.2.1
  intro n
  induction n with
  | zero =>
    intro j hj h3
    refine g_tu_find_2 ?_
    rw [ht.1, if_neg (by omega)]
    exact h2 (fun i hi => h3 i (by omega))
  | succ n ih =>
    intro j hj h3
    refine g_tu_find_2 ?_
    rw [ht.1, if_pos (by omega), if_pos (by omega), zck_t (by omega), Int.toNat_natCast, (ht.2.2 j (by omega)).1]
    by_cases e : cod (bw bf j) = c
    · rw [if_pos (by omega)]
      exact h1 j (by omega) e
    · rw [if_neg (by omega), zwr_id (by omega) (by omega), show ((j : Int) + 1) = ((j + 1 : Nat) : Int) by omega]
      refine ih (j + 1) (by omega) (fun i hi => ?_)
      by_cases q : i = j
      · rw [q]; exact e
      · exact h3 i (by omega)
theorem e_tu_find {c : Nat} (ht : tB M bf) (h1 : ∀ i, i < bf.length → cod (bw bf i) = c → Q (i : Int) (SH, M, L)) (h2 : (∀ i, i < bf.length → cod (bw bf i) ≠ c) → Q (-9) (SH, M, L)) : zEv (d + 1) m_tu_find [zR 97, zI (c : Int)] (SH, M, L) Q :=
  b_tu_find (g_tu_find_0 (tu_fd ht h1 h2 bf.length 0 (by omega) (fun i hi => by omega)))
theorem bw_in {y : List Int} : y ∈ bf.map (fun p => p.1) ↔ ∃ i, i < bf.length ∧ bw bf i = y := by
  constructor
  · intro h
    obtain ⟨p, p1, p2⟩ := List.mem_map.mp h
    obtain ⟨i, i1, i2⟩ := mem_getD (x := zbf0) p1
    exact ⟨i, i1, by unfold bw; rw [i2]; exact p2⟩
  · rintro ⟨i, i1, i2⟩
    exact List.mem_map.mpr ⟨_, getD_mem i1, i2⟩
theorem e_tu_note {y : List Int} {m : Nat} (ht : tB M bf) (hW : ∀ i, i < bf.length → isW (bw bf i)) (hy : isW y) (h64 : (bfA bf y m).length ≤ 64)
    (h : ∀ M', tB M' (bfA bf y m) → (∀ j, j ≠ 8 → M' 97 j = M 97 j) → cFr [97, 105, 106] M M' → Q 0 (SH, M', L)) : zEv (d + 2) m_tu_note [zR 97, zI (cod y : Int), zI (m : Int)] (SH, M, L) Q := by
  have hb := ht.2.1
  refine b_tu_note (g_tu_note_0 (e_tu_find ht (fun i hi e => g_tu_note_5 ?_) (fun hno => g_tu_note_5 ?_)))
  · rw [if_neg (by omega)]
    have hin : y ∈ bf.map (fun p => p.1) := bw_in.mpr ⟨i, hi, cod_inj (hW i hi) hy e⟩
    unfold bfA at h
    rw [if_pos hin] at h
    exact h M ht (fun _ _ => rfl) cFr.rf
  · have hin : ¬ y ∈ bf.map (fun p => p.1) := fun z => by
      obtain ⟨i, i1, i2⟩ := bw_in.mp z
      exact hno i i1 (by rw [i2])
    unfold bfA at h h64
    rw [if_neg hin] at h h64
    have hlt : bf.length < 64 := by rw [List.length_append, List.length_singleton] at h64; omega
    rw [if_pos (by decide), ht.1, if_pos (by omega)]
    have e1 : zmu M 105 bf.length (cod y : Int) 97 8 = (bf.length : Int) := by rw [zmu_k (by decide)]; exact ht.1
    have e2 : zmu (zmu M 105 bf.length (cod y : Int)) 106 bf.length (m : Int) 97 8 = (bf.length : Int) := by rw [zmu_k (by decide)]; exact e1
    simp only [Int.toNat_natCast, e1, e2]
    rw [zck_t (by omega), zck_t (by omega), zwr_id (by omega) (by omega)]
    refine h _ ⟨?_, h64, fun i hi => ?_⟩ (fun j hj => ?_) (fun c hc => ?_)
    · rw [zmu_s]; simp
    · by_cases e : i = bf.length
      · subst e
        unfold bw bm
        rw [getD_new]
        exact ⟨by rw [zmu_k (by decide), zmu_k (by decide), zmu_s], by rw [zmu_k (by decide), zmu_s]⟩
      · have hi' : i < bf.length := by rw [List.length_append, List.length_singleton] at hi; omega
        unfold bw bm
        rw [getD_app hi']
        exact ⟨by rw [zmu_k (by decide), zmu_k (by decide), zmu_j e]; exact (ht.2.2 i hi').1, by rw [zmu_k (by decide), zmu_j e, zmu_k (by decide)]; exact (ht.2.2 i hi').2⟩
    · rw [zmu_j hj, zmu_k (by decide), zmu_k (by decide)]
    · have hc' : c ≠ 97 ∧ c ≠ 105 ∧ c ≠ 106 := by simpa using hc
      rw [zmu_kf hc'.1, zmu_kf hc'.2.2, zmu_kf hc'.2.1]
end TU
