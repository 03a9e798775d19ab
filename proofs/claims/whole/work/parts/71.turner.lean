/-! the class's search: all moves of a word; sorting -/
section TM
variable {d : Nat} {M M' L : zM} {Q : Int → zW → Prop} {P R : Nat → Nat} {u w : List Int} {r k : Nat} {bf : List (List Int × Nat)}
theorem bfI_W (hw : isW u) (hi : bfI P R u bf k) {i : Nat} (h : i < bf.length) : isW (bw bf i) ∧ (bw bf i).length = u.length := rch_W hw (hi.1 _ (getD_mem h))
def bfD (bf : List (List Int × Nat)) : Prop := ∀ i, i < bf.length → bm bf i ≤ i
theorem bfD_A {y : List Int} (h : bfD bf) (hk : k < bf.length) : bfD (bfA bf y (bm bf k + 1)) := by
  unfold bfA
  by_cases g : y ∈ bf.map (fun p => p.1)
  · rw [if_pos g]; exact h
  · rw [if_neg g]
    intro i hi
    have hk' := h k hk
    by_cases e : i = bf.length
    · subst e
      unfold bm
      rw [getD_new]
      show bm bf k + 1 ≤ _
      omega
    · have hi' : i < bf.length := by rw [List.length_append, List.length_singleton] at hi; omega
      unfold bm
      rw [getD_app hi']
      exact h i hi'
abbrev tuS : List Nat := [83, 84, 97, 101, 102, 103, 104, 105, 106]
theorem tu_mv {M0 : zM} {x : List Int} {dk : Nat} (hl : lIs M0 1 P R) (ho : lOk P R) (hw : isW u) (h7 : u.length ≤ 7) (hu : lw P R false u = u)
    (h : ∀ M' bf', tB M' bf' → bfI P R u bf' (k + 1) → bfD bf' → M' 97 9 = M0 97 9 → cFr tuS M0 M' → Q 0 (SH, M', L)) :
    ∀ (n a : Nat) (Mk : zM) (bf : List (List Int × Nat)), a + n = 6 → tB Mk bf → bfI P R u bf k → bfD bf → k < bf.length → bf.getD k zbf0 = (x, dk) → (∀ b, b < a → ∀ x', tk (psL P) (b : Int) x = some x' → ∃ m, (lw P R false (x' ++ [(b : Int)]), m) ∈ bf ∧ m ≤ dk + 1) → Mk 97 9 = M0 97 9 → rIs Mk 101 x → cFr tuS M0 Mk → zEx (d + 6) m_tu_moveAll zb0 Q 24 ([zR 97, zI (k : Int), zI (rdy P x : Int), zI (a : Int)], [], SH, Mk, L) := by
  have z1 := zRow_101
  have z3 := zRow_103
  intro n
  induction n with
  | zero =>
    intro a Mk bf ha ht hi hD hk hx hdone h9 hr hf
    refine g_tu_moveAll_24 ?_
    rw [if_neg (by omega)]
    have hxW : isW x := by
      have := bfI_W hw hi hk
      unfold bw at this
      rw [hx] at this
      exact this.1
    refine h Mk bf ht (bfI_s hi hk (fun y hy => ?_)) hD h9 hf
    unfold bw at hy
    unfold bm
    rw [hx] at hy ⊢
    obtain ⟨b, x', h1, h2⟩ := hy
    have hb := hxW b ((tk_mem h1 b).mpr (Or.inl rfl))
    obtain ⟨m, m1, m2⟩ := hdone b.toNat (by omega) x' (by rw [show ((b.toNat : Nat) : Int) = b by omega]; exact h1)
    rw [show ((b.toNat : Nat) : Int) = b by omega, ← h2] at m1
    exact ⟨m, m1, m2⟩
  | succ n ih =>
    intro a Mk bf ha ht hi hD hk hx hdone h9 hr hf
    have hxr := bfI_W hw hi hk
    unfold bw at hxr
    rw [hx] at hxr
    have hxW : isW x := hxr.1
    have hxl := hxr.2
    have hxl : x.length = u.length := hxl
    have h64 := ht.2.1
    have hr64 := rdy_lt hxW (P := P)
    have hbit := rdy_bit ho (a := (a : Int)) (by omega) hxW
    rw [Int.toNat_natCast] at hbit
    refine g_tu_moveAll_24 ?_
    rw [if_pos (by omega), zbit_nat (by omega) (by omega), hbit]
    cases gt : tk (psL P) (a : Int) x with
    | none =>
      refine zif_f (by simp) (g_tu_moveAll_101 ?_)
      rw [zwr_id (by omega) (by omega), show ((a : Int) + 1) = ((a + 1 : Nat) : Int) by omega]
      refine ih (a + 1) Mk bf (by omega) ht hi hD hk hx (fun b hb x' hx' => ?_) h9 hr hf
      by_cases e : b = a
      · subst e; rw [gt] at hx'; cases hx'
      · exact hdone b (by omega) x' hx'
    | some x' =>
      have he := tk_erase gt
      have hlen := tk_len gt
      refine zif_t (by simp) (e_ro_copy z3 z1 (by decide) hr (by rw [zl104]; omega) (fun M1 a1 f1 => g_tu_moveAll_50 ?_))
      refine e_ro_removeFirst z3 a1 (fun M2 a2 f2 => g_tu_moveAll_58 ?_)
      rw [← he] at a2
      refine e_ro_add z3 a2 (fun M3 a3 f3 => g_tu_moveAll_66 ?_)
      rw [if_pos (by rw [zl104]; omega)] at a3
      have c1 : cFr [103, 104] Mk M3 := ((f1.c (by decide) (by decide)).tr (f2.c (by decide) (by decide))).tr (f3.c (by decide) (by decide))
      have hyW : isW (x' ++ [(a : Int)]) := fun b hb => hxW b ((tk_mem gt b).mpr (by
        rcases List.mem_append.mp hb with g | g
        · exact Or.inr g
        · exact Or.inl (by simpa using g)))
      have hyl : (x' ++ [(a : Int)]).length = u.length := by rw [List.length_append, List.length_singleton]; omega
      refine e_be_arrange (last := false) z3 z3 (by decide) (by decide) a3 hyW (c1.law (hf.law hl (by decide) (by decide)) (by decide) (by decide)) ho (by omega) (by rw [zl104]; omega) (fun M4 a4 f4 => g_tu_moveAll_82 ?_)
      refine e_tu_codeOf z3 a4 (lw_isW hyW) (by rw [lw_len]; omega) (g_tu_moveAll_90 ?_)
      have c2 : cFr [83, 84, 103, 104] Mk M4 := (c1.up (by decide)).tr (f4.up (by decide))
      have ht4 : tB M4 bf := ht.of (fun k hk => c2 k (by intro z; simp at hk z; omega))
      have hmv : mv P R (bw bf k) (lw P R false (x' ++ [(a : Int)])) := by
        unfold bw
        rw [hx]
        exact ⟨(a : Int), x', gt, rfl⟩
      obtain ⟨i1, i2, i3, i4, i5⟩ := bfI_A hi hk hmv
      have hbm : bm bf k = dk := by unfold bm; rw [hx]
      have hDk := hD k hk
      rw [zck_t (by omega), Int.toNat_natCast, (ht4.2.2 k hk).2, zwr_id (by omega) (by omega), show (bm bf k : Int) + 1 = ((bm bf k + 1 : Nat) : Int) by omega]
      refine e_tu_note ht4 (fun i hi' => (bfI_W hw hi hi').1) (lw_isW hyW) (bfI_64 ho hw hu h7 i1) (fun M5 t5 j5 f5 => g_tu_moveAll_101 ?_)
      rw [zwr_id (by omega) (by omega), show ((a : Int) + 1) = ((a + 1 : Nat) : Int) by omega]
      refine ih (a + 1) M5 _ (by omega) t5 i1 (bfD_A hD hk) i2 (i3.trans hx) (fun b hb x'' hx'' => ?_) ?_ ?_ ?_
      · by_cases e : b = a
        · subst e
          rw [gt] at hx''
          cases hx''
          rw [← hbm]
          exact i4
        · obtain ⟨m, m1, m2⟩ := hdone b (by omega) x'' hx''
          exact ⟨m, i5 _ m1, m2⟩
      · rw [j5 9 (by decide), c2 97 (by decide)]; exact h9
      · exact f5.row (c2.row hr (by decide) (by decide)) (by decide) (by decide)
      · exact hf.tr ((c2.up (by decide)).tr (f5.up (by decide)))
theorem e_tu_moveAll (hl : lIs M 1 P R) (ho : lOk P R) (hw : isW u) (h7 : u.length ≤ 7) (hu : lw P R false u = u) (ht : tB M bf) (hi : bfI P R u bf k) (hD : bfD bf) (hk : k < bf.length) (h9 : M 97 9 = (u.length : Int))
    (h : ∀ M' bf', tB M' bf' → bfI P R u bf' (k + 1) → bfD bf' → M' 97 9 = M 97 9 → cFr tuS M M' → Q 0 (SH, M', L)) : zEv (d + 6) m_tu_moveAll [zR 97, zI (k : Int)] (SH, M, L) Q := by
  have h64 := ht.2.1
  have hxr := bfI_W hw hi hk
  refine b_tu_moveAll (g_tu_moveAll_0 ?_)
  rw [zck_t (by omega), Int.toNat_natCast, (ht.2.2 k hk).1]
  refine e_tu_decode hxr.1 (by rw [hxr.2]; exact h7) (by rw [h9, ← hxr.2]) (fun M1 a1 f1 => g_tu_moveAll_10 ?_)
  have hl1 := f1.law hl (by decide) (by decide)
  refine e_la_readyLetters zLaw_1 zRow_101 hl1 ho.1 a1 hxr.1 (g_tu_moveAll_21 ?_)
  refine tu_mv (M0 := M1) (dk := bm bf k) hl1 ho hw h7 hu (fun M2 bf2 t2 i2 D2 j2 f2 => h M2 bf2 t2 i2 D2 (j2.trans (by rw [f1 97 (by decide)])) ((f1.up (by decide)).tr f2)) 6 0 M1 bf (by omega) (ht.of (fun k hk => f1 k (by intro z; simp at hk z; omega))) hi hD hk rfl (fun b hb => by omega) rfl a1 cFr.rf
/-! sorting -/
theorem ins_getD {so : List Int} {c : Int} {p i : Nat} (hp : p ≤ so.length) : (so.take p ++ c :: so.drop p).getD i 0 = if i < p then so.getD i 0 else if i = p then c else so.getD (i - 1) 0 := by
  have hl : (so.take p).length = p := by rw [List.length_take]; omega
  rw [List.getD_eq_getElem?_getD, List.getD_eq_getElem?_getD, List.getD_eq_getElem?_getD]
  by_cases g : i < p
  · rw [if_pos g, List.getElem?_append_left (by omega), List.getElem?_take_of_lt g]
  · rw [if_neg g, List.getElem?_append_right (by omega), hl]
    by_cases e : i = p
    · rw [if_pos e, e, Nat.sub_self]; rfl
    · rw [if_neg e, show i - p = (i - p - 1) + 1 by omega, List.getElem?_cons_succ, List.getElem?_drop, show p + (i - p - 1) = i - 1 by omega]
def cdi (p : List Int × Nat) : Int := (cod p.1 : Int)
def soK (bf : List (List Int × Nat)) (M : zM) (k : Nat) (so : List Int) : Prop := so.Perm ((bf.take k).map cdi) ∧ so.Pairwise (fun a b => a ≤ b) ∧ so.length = k
theorem so_ins {so : List Int} {p : Nat} (h : soK bf M k so) (hk : k < bf.length) (hp : p ≤ k) (h1 : ∀ i, p ≤ i → i < k → cdi (bf.getD k zbf0) < so.getD i 0) (h2 : p = 0 ∨ so.getD (p - 1) 0 ≤ cdi (bf.getD k zbf0)) : soK bf M (k + 1) (so.take p ++ cdi (bf.getD k zbf0) :: so.drop p) := by
  obtain ⟨a1, a2, a3⟩ := h
  refine ⟨?_, ?_, ?_⟩
  · have e : (bf.take (k + 1)).map cdi = (bf.take k).map cdi ++ [cdi (bf.getD k zbf0)] := by
      rw [List.take_succ, List.map_append, List.getD_eq_getElem?_getD, List.getElem?_eq_getElem hk]; rfl
    rw [e]
    refine List.perm_middle.trans ?_
    rw [List.take_append_drop]
    exact (List.Perm.cons _ a1).trans (List.perm_append_comm (l₁ := [_]))
  · have hpw : ∀ i j, i < j → j < so.length → so.getD i 0 ≤ so.getD j 0 := fun i j hij hj => by
      have := List.pairwise_iff_getElem.mp a2 i j (by omega) hj hij
      rw [List.getD_eq_getElem?_getD, List.getD_eq_getElem?_getD, List.getElem?_eq_getElem hj, List.getElem?_eq_getElem (by omega)]
      exact this
    refine List.pairwise_append.mpr ⟨a2.sublist (List.take_sublist ..), List.pairwise_cons.mpr ⟨fun b hb => ?_, a2.sublist (List.drop_sublist ..)⟩, fun a ha b hb => ?_⟩
    · obtain ⟨i, hi, e⟩ := List.getElem_of_mem hb
      rw [List.length_drop] at hi
      rw [List.getElem_drop] at e
      have := h1 (p + i) (by omega) (by omega)
      rw [List.getD_eq_getElem?_getD (l := so), List.getElem?_eq_getElem (by omega)] at this
      rw [← e]
      exact Int.le_of_lt this
    · obtain ⟨i, hi, e⟩ := List.getElem_of_mem ha
      rw [List.length_take] at hi
      rw [List.getElem_take] at e
      have ea : so.getD i 0 = a := by rw [List.getD_eq_getElem?_getD, List.getElem?_eq_getElem (by omega)]; exact e
      have hac : a ≤ cdi (bf.getD k zbf0) := by
        rcases h2 with z | z
        · omega
        · by_cases q : i = p - 1
          · rw [← ea, q]; exact z
          · have := hpw i (p - 1) (by omega) (by omega)
            omega
      rcases List.mem_cons.mp hb with z | z
      · rw [z]; exact hac
      · obtain ⟨j, hj, e'⟩ := List.getElem_of_mem z
        rw [List.length_drop] at hj
        rw [List.getElem_drop] at e'
        have := h1 (p + j) (by omega) (by omega)
        rw [List.getD_eq_getElem?_getD (l := so), List.getElem?_eq_getElem (by omega)] at this
        rw [← e']
        have this : cdi (bf.getD k zbf0) < so[p + j] := this
        omega
  · rw [List.length_append, List.length_cons, List.length_take, List.length_drop]
    omega
theorem tu_so1 {so : List Int} {M0 : zM} (hk : k < bf.length) (h64 : bf.length ≤ 64) (hs : soK bf M k so)
    (h : ∀ M' so' (v2 v3 : zV), soK bf M (k + 1) so' → (∀ i, i < k + 1 → M' 107 i = so'.getD i 0) → cFr [107] M0 M' → zEx (d + 1) m_tu_sortCodes zb0 Q 2 ([zR 97, zI ((k + 1 : Nat) : Int), v2, v3], [], SH, M', L)) :
    ∀ (p : Nat) (Mk : zM), p ≤ k → (∀ i, i < p → Mk 107 i = so.getD i 0) → (∀ i, p < i → i ≤ k → Mk 107 i = so.getD (i - 1) 0) → (∀ i, p ≤ i → i < k → cdi (bf.getD k zbf0) < so.getD i 0) → cFr [107] M0 Mk → zEx (d + 1) m_tu_sortCodes zb0 Q 25 ([zR 97, zI (k : Int), zI (cdi (bf.getD k zbf0)), zI (p : Int)], [], SH, Mk, L) := by
  have hsl := hs.2.2
  have fin : ∀ (p : Nat) (Mk : zM), p ≤ k → (∀ i, i < p → Mk 107 i = so.getD i 0) → (∀ i, p < i → i ≤ k → Mk 107 i = so.getD (i - 1) 0) → (∀ i, p ≤ i → i < k → cdi (bf.getD k zbf0) < so.getD i 0) → (p = 0 ∨ so.getD (p - 1) 0 ≤ cdi (bf.getD k zbf0)) → cFr [107] M0 Mk → zEx (d + 1) m_tu_sortCodes zb0 Q 2 ([zR 97, zI ((k + 1 : Nat) : Int), zI (cdi (bf.getD k zbf0)), zI (p : Int)], [], SH, zmu Mk 107 p (cdi (bf.getD k zbf0)), L) := by
    intro p Mk hp h1 h2 h3 h4 hf
    refine h _ _ _ _ (so_ins hs hk hp h3 h4) (fun i hi => ?_) (fun c hc => ?_)
    · rw [ins_getD (by omega)]
      by_cases e : i = p
      · rw [e, zmu_s, if_neg (by omega), if_pos rfl]
      · rw [zmu_j e]
        by_cases g : i < p
        · rw [if_pos g]; exact h1 i g
        · rw [if_neg g, if_neg e]; exact h2 i (by omega) (by omega)
    · rw [zmu_kf (by simpa using hc)]; exact hf c hc
  intro p
  induction p with
  | zero =>
    intro Mk hp h1 h2 h3 hf
    refine g_tu_sortCodes_25 ?_
    rw [if_neg (by omega), zck_t (by omega), Int.toNat_natCast, zwr_id (by omega) (by omega), show ((k : Int) + 1) = ((k + 1 : Nat) : Int) by omega]
    exact fin 0 Mk hp h1 h2 h3 (Or.inl rfl) hf
  | succ p ih =>
    intro Mk hp h1 h2 h3 hf
    refine g_tu_sortCodes_25 ?_
    have e1 : zwr (((p + 1 : Nat) : Int) - 1) = (p : Int) := by rw [zwr_id (by omega) (by omega)]; omega
    have e2 : zwr (((p + 1 : Nat) : Int) + -1) = (p : Int) := by rw [zwr_id (by omega) (by omega)]; omega
    rw [if_pos (by omega), e1, e2, zck_t (by omega), Int.toNat_natCast, h1 p (by omega)]
    by_cases g : cdi (bf.getD k zbf0) < so.getD p 0
    · rw [if_pos g, zck_t (by omega), zck_t (by omega), Int.toNat_natCast]
      refine ih _ (by omega) (fun i hi => ?_) (fun i hi hi' => ?_) (fun i hi hi' => ?_) (fun c hc => ?_)
      · rw [zmu_j (by omega)]; exact h1 i (by omega)
      · by_cases e : i = p + 1
        · rw [e, zmu_s]; rfl
        · rw [zmu_j e]; exact h2 i (by omega) hi'
      · by_cases e : i = p
        · rw [e]; exact g
        · exact h3 i (by omega) hi'
      · rw [zmu_kf (by simpa using hc)]; exact hf c hc
    · rw [if_neg g, zck_t (by omega), Int.toNat_natCast, zwr_id (by omega) (by omega), show ((k : Int) + 1) = ((k + 1 : Nat) : Int) by omega]
      exact fin (p + 1) Mk hp h1 h2 h3 (Or.inr (by rw [Nat.add_sub_cancel]; omega)) hf
theorem tu_so2 {M0 : zM} (ht : tB M0 bf)
    (h : ∀ (M' : zM) (so : List Int), so.Perm (bf.map cdi) → so.Pairwise (fun a b => a ≤ b) → (∀ i, i < bf.length → M' 107 i = so.getD i 0) → cFr [107] M0 M' → Q 0 (SH, M', L)) :
    ∀ (n k : Nat) (Mk : zM) (so : List Int) (v2 v3 : zV), k + n = bf.length → soK bf M0 k so → (∀ i, i < k → Mk 107 i = so.getD i 0) → cFr [107] M0 Mk → zEx (d + 1) m_tu_sortCodes zb0 Q 2 ([zR 97, zI (k : Int), v2, v3], [], SH, Mk, L) := by
  have h64 := ht.2.1
  intro n
  induction n with
  | zero =>
    intro k Mk so v2 v3 hk hs h1 hf
    refine g_tu_sortCodes_2 ?_
    rw [hf 97 (by decide), ht.1, if_neg (by omega)]
    have a1 := hs.1
    rw [List.take_of_length_le (by omega)] at a1
    exact h Mk so a1 hs.2.1 (fun i hi => h1 i (by omega)) hf
  | succ n ih =>
    intro k Mk so v2 v3 hk hs h1 hf
    refine g_tu_sortCodes_2 ?_
    rw [hf 97 (by decide), ht.1, if_pos (by omega), if_pos (by omega), zck_t (by omega), Int.toNat_natCast, hf 105 (by decide), (ht.2.2 k (by omega)).1]
    exact tu_so1 (M := M0) (M0 := M0) (by omega) h64 hs (fun M1 so1 v2 v3 s1 a1 f1 => ih (k + 1) M1 so1 v2 v3 (by omega) s1 a1 f1) k Mk (Nat.le_refl _) h1 (fun i hi hi' => by omega) (fun i hi hi' => by omega) hf
theorem e_tu_sortCodes (ht : tB M bf) (h : ∀ (M' : zM) (so : List Int), so.Perm (bf.map cdi) → so.Pairwise (fun a b => a ≤ b) → (∀ i, i < bf.length → M' 107 i = so.getD i 0) → cFr [107] M M' → Q 0 (SH, M', L)) : zEv (d + 1) m_tu_sortCodes [zR 97] (SH, M, L) Q := by
  refine b_tu_sortCodes (g_tu_sortCodes_0 (tu_so2 ht h bf.length 0 M [] _ _ (by omega) ⟨?_, List.Pairwise.nil, rfl⟩ (fun i hi => by omega) cFr.rf))
  rw [List.take_zero]
  exact List.Perm.refl _
end TM
