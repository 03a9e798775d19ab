/-! turn, by the reference -/
section RK
variable {P R : Nat → Nat} {u : List Int} {bf : List (List Int × Nat)} {so : List Int} {k f : Nat}
theorem cnt_cp {α : Type} {p : α → Bool} {l : List α} {x : α} : ∀ k, k ≤ l.length → cnt (fun g => p (l.getD g x)) k = (l.take k).countP p
  | 0, _ => by simp [cnt]
  | k + 1, h => by
    have ih := cnt_cp (p := p) (l := l) (x := x) k (by omega)
    show cnt _ k + (if p (l.getD k x) = true then 1 else 0) = _
    rw [ih, List.take_succ, List.getD_eq_getElem?_getD, List.getElem?_eq_getElem (by omega), List.countP_append]
    simp [List.countP_cons]
theorem so_cp (h : so.Pairwise (fun a b => a < b)) (hk : k < so.length) : so.countP (fun x => decide (x < so.getD k 0)) = k := by
  have e : so.getD k 0 = so[k] := by rw [List.getD_eq_getElem?_getD, List.getElem?_eq_getElem hk]; rfl
  have h1 : (so.take k).countP (fun x => decide (x < so.getD k 0)) = (so.take k).length := by
    refine List.countP_eq_length.mpr (fun a ha => decide_eq_true ?_)
    obtain ⟨i, hi, e'⟩ := List.getElem_of_mem ha
    rw [List.length_take] at hi
    rw [List.getElem_take] at e'
    rw [← e', e]
    exact List.pairwise_iff_getElem.mp h i k (by omega) hk (by omega)
  have h2 : (so.drop k).countP (fun x => decide (x < so.getD k 0)) = 0 := by
    refine List.countP_eq_zero.mpr (fun a ha z => ?_)
    have z := of_decide_eq_true z
    obtain ⟨i, hi, e'⟩ := List.getElem_of_mem ha
    rw [List.length_drop] at hi
    rw [List.getElem_drop] at e'
    rw [← e', e] at z
    rcases Nat.eq_zero_or_pos i with q | q
    · subst q
      simp at z
    · have := List.pairwise_iff_getElem.mp h k (k + i) hk (by omega) (by omega)
      omega
  have h3 : so.countP (fun x => decide (x < so.getD k 0)) = (so.take k ++ so.drop k).countP (fun x => decide (x < so.getD k 0)) := by rw [List.take_append_drop]
  rw [h3, List.countP_append, h1, h2, List.length_take]
  omega
/-- how many of the words found come before -/
def rnk (bf : List (List Int × Nat)) (f : Nat) : Nat := cnt (fun g => decide (nb (bw bf g) < nb (bw bf f))) bf.length
theorem bfR_W (hw : isW u) (h : bfR P R u bf) (hf : f < bf.length) : isW (bw bf f) ∧ (bw bf f).length = u.length := rch_W hw (h.1 _ (getD_mem hf)).1
theorem rnk_cod (hw : isW u) (h : bfR P R u bf) (hf : f < bf.length) : rnk bf f = (bf.map cdi).countP (fun x => decide (x < cdi (bf.getD f zbf0))) := by
  have e : rnk bf f = cnt (fun g => decide (cdi (bf.getD g zbf0) < cdi (bf.getD f zbf0))) bf.length := by
    refine cnt_c (fun g hg => decide_eq_decide.mpr ?_)
    have a1 := bfR_W hw h hg
    have a2 := bfR_W hw h hf
    rw [nb_lt a1.1 a2.1 (by rw [a1.2, a2.2])]
    show _ ↔ (cod (bw bf g) : Int) < (cod (bw bf f) : Int)
    omega
  rw [e, cnt_cp (p := fun p => decide (cdi p < cdi (bf.getD f zbf0))) (l := bf) (x := zbf0) bf.length (Nat.le_refl _), List.take_length, List.countP_map]
  rfl
theorem so_lt (hw : isW u) (h : bfR P R u bf) (h1 : so.Perm (bf.map cdi)) (h2 : so.Pairwise (fun a b => a ≤ b)) : so.Pairwise (fun a b => a < b) := by
  have hn : (bf.map cdi).Nodup := by
    refine List.pairwise_map.mpr (List.Pairwise.imp_of_mem (fun {a b} ha hb hne heq => ?_) (List.pairwise_map.mp h.2.2))
    exact hne (cod_inj (rch_W hw (h.1 _ ha).1).1 (rch_W hw (h.1 _ hb).1).1 (by unfold cdi at heq; omega))
  have hn2 : so.Nodup := h1.nodup_iff.mpr hn
  exact (h2.and hn2).imp (fun ⟨q1, q2⟩ => by omega)
theorem rnk_iff (hw : isW u) (h : bfR P R u bf) (h1 : so.Perm (bf.map cdi)) (h2 : so.Pairwise (fun a b => a ≤ b)) (hk : k < bf.length) (hf : f < bf.length) : rnk bf f = k ↔ cdi (bf.getD f zbf0) = so.getD k 0 := by
  have hl : so.length = bf.length := by rw [h1.length_eq, List.length_map]
  have hs := so_lt hw h h1 h2
  rw [rnk_cod hw h hf, ← h1.countP_eq]
  constructor
  · intro e
    have hm : cdi (bf.getD f zbf0) ∈ so := h1.mem_iff.mpr (List.mem_map.mpr ⟨_, getD_mem hf, rfl⟩)
    obtain ⟨j, j1, j2⟩ := mem_getD (x := 0) hm
    rw [← j2, so_cp hs j1] at e
    rw [← e, j2]
  · intro e
    rw [e]
    exact so_cp hs (by omega)
theorem rnk_ex (hw : isW u) (h : bfR P R u bf) (hk : k < bf.length) : ∃ f, f < bf.length ∧ rnk bf f = k ∧ kw P R u k = bw bf f := by
  have h1 : (sol P R u).Perm (bf.map cdi) := (List.mergeSort_perm _ _).trans ((bfl_p h).map cdi)
  have hl : (sol P R u).length = bf.length := by rw [h1.length_eq, List.length_map]
  have hm : (sol P R u).getD k 0 ∈ bf.map cdi := h1.mem_iff.mp (getD_mem (by omega))
  obtain ⟨p, p1, p2⟩ := List.mem_map.mp hm
  obtain ⟨f, f1, f2⟩ := mem_getD (x := zbf0) p1
  refine ⟨f, f1, (rnk_iff hw h h1 sol_s hk f1).mpr (by rw [f2, p2]), ?_⟩
  refine kw_eq (m := bm bf f) hw h (getD_mem f1) ?_
  rw [← p2, ← f2]
  rfl
theorem rnk_kw (hw : isW u) (h : bfR P R u bf) (hk : k < bf.length) (hf : f < bf.length) (e : rnk bf f = k) : kw P R u k = bw bf f := by
  have h1 : (sol P R u).Perm (bf.map cdi) := (List.mergeSort_perm _ _).trans ((bfl_p h).map cdi)
  exact kw_eq (m := bm bf f) hw h (getD_mem hf) ((rnk_iff hw h h1 sol_s hk hf).mp e)
end RK
section MV
variable {d : Nat} {M M' L : zM} {Q : Int → zW → Prop} {P R : Nat → Nat} {ws : List (List Int)} {tx : List Int} {hs : List zLw} {kp : zKp} {ls : Nat → Option (List Int)} {rf : Nat → Int} {u w : List Int} {r k : Nat} {bf : List (List Int × Nat)}
theorem mo_tn1 {x1 x2 x3 x4 : Int} {f : Nat} (ht : mB M bf) (hf : f < bf.length) (h : zEx (d + 9) m_mo_turn zb0 Q 80 ([zR 112, zI x1, zI x2, zI x3, zI (if (rnk bf f : Int) = x2 then (f : Int) else -9), zI ((f + 1 : Nat) : Int), zI (rnk bf f : Int), zI (bf.length : Int)], [], SH, M, L)) :
    ∀ (n g : Nat), g + n = bf.length → zEx (d + 9) m_mo_turn zb0 Q 102 ([zR 112, zI x1, zI x2, zI x3, zI x4, zI (f : Int), zI (cnt (fun g => decide (nb (bw bf g) < nb (bw bf f))) g : Int), zI (g : Int)], [], SH, M, L) := by
  have hb := ht.2.1
  intro n
  induction n with
  | zero =>
    intro g hg
    have hg : g = bf.length := by omega
    subst hg
    refine g_mo_turn_102 ?_
    rw [ht.1, if_neg (by omega), zwr_id (by omega) (by omega), show ((f : Int) + 1) = ((f + 1 : Nat) : Int) by omega]
    by_cases e : (rnk bf f : Int) = x2
    · rw [if_pos e] at h
      unfold rnk at e h
      rw [if_pos e]; exact h
    · rw [if_neg e] at h
      unfold rnk at e h
      rw [if_neg e]; exact h
  | succ n ih =>
    intro g hg
    have hc := cnt_le (fun g => decide (nb (bw bf g) < nb (bw bf f))) g
    refine g_mo_turn_102 ?_
    rw [ht.1, if_pos (by omega), zck_t (by omega), zck_t (by omega), Int.toNat_natCast, Int.toNat_natCast, (ht.2.2 g (by omega)).1, (ht.2.2 f hf).1, zwr_id (by omega) (by omega), zwr_id (by omega) (by omega), zwr_id (by omega) (by omega), show ((g : Int) + 1) = ((g + 1 : Nat) : Int) by omega]
    by_cases e : nb (bw bf g) < nb (bw bf f)
    · rw [if_pos (by omega)]
      have := ih (g + 1) (by omega)
      rw [cnt_s (decide_eq_true e)] at this
      exact this
    · rw [if_neg (by omega), Int.add_zero]
      have := ih (g + 1) (by omega)
      rw [cnt_n (decide_eq_false e)] at this
      exact this
theorem mo_tn2 {x1 x3 : Int} {n7 : Nat} (ht : mB M bf) (hx1 : 0 ≤ x1 ∧ x1 < 5) (hex : ∃ f, f < bf.length ∧ rnk bf f = k)
    (h : ∀ (f : Nat) (x5 : Int) (v6 v7 : zV), f < bf.length → rnk bf f = k → zEv (d + 8) m_mo_lays_ [zR 112, zI (nb (bw bf f) : Int), zR 128, zI (M 115 x1.toNat)] (SH, M, L) (fun _ w => zEx (d + 9) m_mo_turn zb0 Q 186 ([zR 112, zI x1, zI (k : Int), zI x3, zI (f : Int), zI x5, v6, v7], [], w))) :
    ∀ (n f : Nat) (v6 v7 : zV), f + n = bf.length → (∀ g, g < f → rnk bf g ≠ k) → zEx (d + 9) m_mo_turn zb0 Q 80 ([zR 112, zI x1, zI (k : Int), zI x3, zI (-9), zI (f : Int), v6, v7], [], SH, M, L) := by
  have hb := ht.2.1
  intro n
  induction n with
  | zero =>
    intro f v6 v7 hf hno
    obtain ⟨g, g1, g2⟩ := hex
    exact absurd g2 (hno g (by omega))
  | succ n ih =>
    intro f v6 v7 hf hno
    refine g_mo_turn_80 ?_
    rw [ht.1, if_pos (by omega), if_pos rfl]
    refine mo_tn1 ht (by omega) ?_ bf.length 0 (by omega)
    by_cases e : rnk bf f = k
    · rw [if_pos (by omega)]
      refine g_mo_turn_80 ?_
      have hl := h f ((f + 1 : Nat) : Int) (zI (rnk bf f : Int)) (zI (bf.length : Int)) (by omega) e
      rw [if_neg (show ¬ (f : Int) = -9 by omega), zck_t (by omega), zck_t (by omega), Int.toNat_natCast, (ht.2.2 f (by omega)).1]
      split <;> exact hl
    · rw [if_neg (by omega)]
      refine ih (f + 1) _ _ (by omega) (fun g hg => ?_)
      by_cases q : g = f
      · rw [q]; exact e
      · exact hno g (by omega)
theorem c_mo_turn {w k i : Int} (hI : iM M P R ws tx hs kp ls rf) (h : ∀ M1 L1, jM M1 (opTurn P R ws tx hs kp ls rf w k i).1 → aC M M1 → Q (opTurn P R ws tx hs kp ls rf w k i).2 (SH, M1, L1)) : zEv (d + 9) m_mo_turn [zR 112, zI w, zI k, zI i] (SH, M, L) Q := by
  unfold opTurn at h
  refine b_mo_turn (g_mo_turn_0 (e_mo_isWord hI.s (g_mo_turn_5 ?_)))
  by_cases g : wd ws w
  · obtain ⟨w1, w2, w3, w4, w5⟩ := hI.w g
    have g0 := g.1
    rw [if_pos g] at h
    rw [if_pos g, if_neg (by decide)]
    have low : k < 0 ∨ i < 0 → zEv (d + 8) m_mo_no [zR 112, zI (-4)] (SH, M, L) (fun x w' => zEx (d + 9) m_mo_turn zb0 Q 28 ([zR 112, zI w, zI k, zI i, zN, zN, zN, zN], [zI x], w')) := fun z => by
      rw [if_pos z] at h
      exact e_mo_noI (k := 4) hI (by omega) (fun M1 I f => g_mo_turn_28 (h M1 L I f))
    refine zif_c (fun z => low (Or.inl z)) (fun z1 => zif_c (fun z => low (Or.inr z)) (fun z2 => ?_))
    rw [if_neg (by omega)] at h
    rw [zck_t (by omega), w1]
    by_cases q : 7 < (gw ws w).length
    · rw [if_pos q] at h
      rw [if_pos (by omega)]
      exact e_mo_noI (k := 6) hI (by omega) (fun M1 I f => g_mo_turn_46 (h M1 L I f))
    · rw [if_neg q] at h
      rw [if_neg (by omega)]
      refine e_mo_turnsAll (d := d + 4) hI g (by omega) (fun M1 bf t1 r1 I1 f1 => g_mo_turn_52 ?_)
      have w1' := (I1.w g).1
      have hb := t1.2.1
      have hlW := lw_isW (P := P) (R := R) (last := false) w3
      have hll : (lw P R false (gw ws w)).length = (gw ws w).length := lw_len
      rw [(bfl_p r1).length_eq] at h
      rw [t1.1]
      by_cases q2 : k < (bf.length : Int)
      · rw [if_pos q2] at h
        rw [if_pos q2, zck_t (by omega), w1']
        obtain ⟨k', rfl⟩ : ∃ k' : Nat, k = (k' : Int) := ⟨k.toNat, by omega⟩
        rw [Int.toNat_natCast] at h
        obtain ⟨f0, f01, f02, f03⟩ := rnk_ex hlW r1 (show k' < bf.length by omega)
        by_cases q3 : i < ((gw ws w).length : Int)
        · rw [if_pos q3]
          refine mo_tn2 (n7 := 0) t1 (by omega) ⟨f0, f01, f02⟩ (fun f x5 v6 v7 hf he => ?_) bf.length 0 _ _ (by omega) (fun g hg => by omega)
          have ek := rnk_kw hlW r1 (show k' < bf.length by omega) hf he
          have hW := bfR_W hlW r1 hf
          rw [ek, rget_in (by omega)] at h
          rw [w1', show ((gw ws w).length : Int) = ((bw bf f).length : Int) by rw [hW.2, hll]]
          refine e_mo_lays_ hW.1 (by omega) (fun M2 m2 f2 => g_mo_turn_186 ?_)
          rw [zck_t (by omega), m2.1 i.toNat (by omega)]
          exact h M2 L (I1.fr f2 (by decide)) (f1.tr (f2.aC (by decide)))
        · rw [if_neg q3]
          have hW := bfR_W hlW r1 f01
          rw [f03, rget_out (by omega)] at h
          exact h M1 L I1 f1
      · rw [if_neg q2] at h
        rw [if_neg q2]
        exact h M1 L I1 f1
  · rw [if_neg g] at h
    rw [if_neg g, if_pos rfl]
    exact e_mo_noI (k := 1) hI (by omega) (fun M1 I f => g_mo_turn_13 (h M1 L I f))
end MV
