/-! contracts of Row: pieces -/
theorem zRow_ne {r o : Nat} (hr : zRow r) (ho : zRow o) : r ≠ o + 1 := fun q => by
  have h1 := hr.1
  have h2 := ho.2.2.1
  rw [q, h2] at h1
  omega
theorem rFr.row {M M' : zM} {r o : Nat} {u : List Int} (h : rFr M M' r) (hr : zRow r) (ho : zRow o) (hne : o ≠ r) (hu : rIs M o u) : rIs M' o u :=
  h.is hu hne (zRow_ne ho hr) (fun q => zRow_ne hr ho q.symm)
theorem getD_app_l {u v : List Int} {j : Nat} (h : j < u.length) : (u ++ v).getD j 0 = u.getD j 0 := by
  rw [List.getD_eq_getElem?_getD, List.getD_eq_getElem?_getD, List.getElem?_append_left h]
theorem getD_app_r {u v : List Int} {j : Nat} : (u ++ v).getD (u.length + j) 0 = v.getD j 0 := by
  rw [List.getD_eq_getElem?_getD, List.getD_eq_getElem?_getD, List.getElem?_append_right (by omega)]
  congr 2
  omega
theorem getD_piece {v : List Int} {i k j : Nat} (h : j < k) : ((v.drop i).take k).getD j 0 = v.getD (i + j) 0 := by
  rw [List.getD_eq_getElem?_getD, List.getD_eq_getElem?_getD, List.getElem?_take_of_lt h, List.getElem?_drop]
section RP
variable {d : Nat} {M L : zM} {Q : Int → zW → Prop} {r o : Nat} {u v : List Int}
theorem ro_appendPiece_loop {i k fit : Int} (hr : zRow r) (ho : zRow o) (hu : rIs M r u) (hv : rIs M o v) (hi : 0 ≤ i ∨ fit = 0) (hf0 : 0 ≤ fit) (hf : fit ≤ zln SH (r + 1) - u.length) (hfv : fit = 0 ∨ i + fit ≤ v.length)
    (h : ∀ M', rIs M' r (u ++ (v.drop i.toNat).take fit.toNat) → rFr M M' r → Q 0 (SH, M', L)) :
    ∀ (n : Nat) (j : Int) (Mj : zM), 0 ≤ j → j + n = fit → (∀ a b, ¬ (a = r + 1 ∧ u.length ≤ b) → Mj a b = M a b) → (∀ t : Nat, (t : Int) < j → Mj (r + 1) (u.length + t) = v.getD (i.toNat + t) 0) →
      zEx (d + 1) m_ro_appendPiece zb0 Q 29 ([zR r, zR o, zI i, zI k, zI fit, zI j], [], SH, Mj, L) := by
  have hc := zRow_cap hr
  have hc2 := zRow_cap ho
  have hul := hu.2.2
  have hvl := hv.2.2
  have hne := zRow_ne hr ho
  have hal : o = r → u.length = v.length := fun q => by
    have e1 := hu.1
    have e2 := hv.1
    rw [q] at e2
    omega
  intro n
  induction n with
  | zero =>
    intro j Mj hj0 hjn h1 h2
    refine g_ro_appendPiece_29 hr ho (zif_f (by omega) ?_)
    rw [h1 r 1 (by omega), hu.1, zwr_id (by omega) (by omega)]
    have hpl : ((v.drop i.toNat).take fit.toNat).length = fit.toNat := by
      rw [List.length_take, List.length_drop]
      omega
    refine h _ ⟨?_, fun t ht => ?_, ?_⟩ (fun a h3 h4 => ?_)
    · rw [zmu_s, List.length_append, hpl]; omega
    · rw [List.length_append, hpl] at ht
      rw [zmu_k (by omega)]
      by_cases q : t < u.length
      · rw [h1 _ _ (by omega), getD_app_l q]; exact hu.2.1 t q
      · have := h2 (t - u.length) (by omega)
        rw [show u.length + (t - u.length) = t by omega] at this
        rw [this]
        have e := getD_app_r (u := u) (v := (v.drop i.toNat).take fit.toNat) (j := t - u.length)
        rw [show u.length + (t - u.length) = t by omega] at e
        rw [e, getD_piece (by omega)]
    · rw [List.length_append, hpl]; omega
    · rw [zmu_kf h3]
      funext b
      exact h1 a b (by omega)
  | succ n ih =>
    intro j Mj hj0 hjn h1 h2
    refine g_ro_appendPiece_29 hr ho (zif_t (by omega) ?_)
    rw [h1 r 1 (by omega), hu.1, zwr_id (x := i + j) (by omega) (by omega), zwr_id (x := (u.length : Int) + j) (by omega) (by omega), zwr_id (x := j + 1) (by omega) (by omega)]
    refine zck_i ⟨by omega, by omega⟩ (zck_i ⟨by omega, by omega⟩ ?_)
    refine ih (j + 1) _ (by omega) (by omega) (fun a b hab => ?_) (fun t ht => ?_)
    · rw [zmu_ne (by omega)]; exact h1 a b hab
    · by_cases q : (t : Int) < j
      · rw [zmu_j (by omega)]; exact h2 t q
      · have e1 : ((u.length : Int) + j).toNat = u.length + t := by omega
        rw [e1, zmu_s]
        have e2 : (i + j).toNat = i.toNat + t := by omega
        rw [e2, h1 _ _ (fun q => by have := hal (by omega); omega), hv.2.1 _ (by omega)]
theorem e_ro_appendPiece {i k : Int} (hr : zRow r) (ho : zRow o) (hu : rIs M r u) (hv : rIs M o v) (hi : zr32 i) (hk : zr32 k)
    (h : ∀ M', rIs M' r (if rhas v.length i k then u ++ (v.drop i.toNat).take (min k (zln SH (r + 1) - u.length)).toNat else u) → rFr M M' r → Q 0 (SH, M', L)) : zEv (d + 2) m_ro_appendPiece [zR r, zR o, zI i, zI k] (SH, M, L) Q := by
  have hc := zRow_cap hr
  have hul := hu.2.2
  refine b_ro_appendPiece (g_ro_appendPiece_0 hr ho (e_ro_has ho hv hi hk ?_))
  refine g_ro_appendPiece_6 hr ho (zif_c (fun h1 => ?_) (fun h1 => ?_))
  · have : rhas v.length i k = false := by
      cases q : rhas v.length i k
      · rfl
      · rw [q] at h1; simp at h1
    rw [this] at h
    exact h M hu rFr.rf
  · have hh : rhas v.length i k = true := by
      cases q : rhas v.length i k
      · rw [q] at h1; simp at h1
      · rfl
    rw [hh] at h
    rw [if_pos rfl] at h
    unfold rhas at hh
    have hh := of_decide_eq_true hh
    rw [hu.1, zwr_id (by omega) (by omega)]
    unfold zmin
    refine ro_appendPiece_loop hr ho hu hv (by omega) (by omega) (by omega) (by omega) h (min k (zln SH (r + 1) - u.length)).toNat 0 M (by omega) (by omega) (fun _ _ _ => rfl) (fun t ht => by omega)
theorem rIs_r32 (hr : zRow r) (hu : rIs M r u) : zr32 (u.length : Int) := by
  have := zRow_cap hr
  have := hu.2.2
  unfold zr32
  omega
theorem e_ro_append (hr : zRow r) (ho : zRow o) (hu : rIs M r u) (hv : rIs M o v) (hl : (u.length : Int) + v.length ≤ zln SH (r + 1)) (h : ∀ M', rIs M' r (u ++ v) → rFr M M' r → Q 0 (SH, M', L)) : zEv (d + 3) m_ro_append [zR r, zR o] (SH, M, L) Q := by
  refine b_ro_append (g_ro_append_0 hr ho ?_)
  rw [hv.1]
  refine e_ro_appendPiece hr ho hu hv zr32_0 (rIs_r32 ho hv) (fun M' h1 h2 => g_ro_append_10 hr ho (h M' ?_ h2))
  have e : rhas v.length 0 v.length = true := by unfold rhas; exact decide_eq_true (by omega)
  rw [e, if_pos rfl] at h1
  rw [List.take_of_length_le (by simp; omega)] at h1
  simpa using h1
theorem e_ro_copy (hr : zRow r) (ho : zRow o) (hne : r ≠ o) (hv : rIs M o v) (hl : (v.length : Int) ≤ zln SH (r + 1)) (h : ∀ M', rIs M' r v → rFr M M' r → Q 0 (SH, M', L)) : zEv (d + 3) m_ro_copy [zR r, zR o] (SH, M, L) Q := by
  refine b_ro_copy (g_ro_copy_0 hr ho (e_ro_clear hr (fun M1 h1 h2 => g_ro_copy_4 hr ho ?_)))
  have hv1 := h2.row hr ho (Ne.symm hne) hv
  rw [hv1.1]
  refine e_ro_appendPiece hr ho h1 hv1 zr32_0 (rIs_r32 ho hv) (fun M' h3 h4 => g_ro_copy_14 hr ho (h M' ?_ (h2.tr h4)))
  have e : rhas v.length 0 v.length = true := by unfold rhas; exact decide_eq_true (by omega)
  rw [e, if_pos rfl] at h3
  rw [List.take_of_length_le (by simp; omega)] at h3
  simpa using h3
theorem ro_appendTimes_loop {k m : Int} (hr : zRow r) (ho : zRow o) (hne : r ≠ o) (hv : rIs M o v) (h : ∀ M', rIs M' r (u ++ (List.replicate m.toNat v).flatten) → rFr M M' r → Q 0 (SH, M', L)) (hm : m ≤ 100) (hl : (u.length : Int) + m * v.length ≤ zln SH (r + 1)) :
    ∀ (n : Nat) (j : Int) (Mj : zM), 0 ≤ j → j + n = m → rIs Mj r (u ++ (List.replicate j.toNat v).flatten) → rFr M Mj r →
      zEx (d + 4) m_ro_appendTimes zb0 Q 13 ([zR r, zR o, zI k, zI m, zI j], [], SH, Mj, L) := by
  intro n
  induction n with
  | zero =>
    intro j Mj hj0 hjn h1 h2
    refine g_ro_appendTimes_13 hr ho (zif_f (by omega) ?_)
    rw [show j = m by omega] at h1
    exact h Mj h1 h2
  | succ n ih =>
    intro j Mj hj0 hjn h1 h2
    have hlen : ((u ++ (List.replicate j.toNat v).flatten).length : Int) + v.length ≤ zln SH (r + 1) := by
      rw [List.length_append, List.length_flatten, List.map_replicate, List.sum_replicate_nat]
      have e1 : (j + 1) * v.length ≤ m * v.length := Int.mul_le_mul_of_nonneg_right (by omega) (by omega)
      have e2 : (j + 1) * (v.length : Int) = j * v.length + v.length := by rw [Int.add_mul, Int.one_mul]
      have e3 : ((j.toNat * v.length : Nat) : Int) = j * v.length := by rw [Int.natCast_mul, Int.toNat_of_nonneg hj0]
      omega
    refine g_ro_appendTimes_13 hr ho (zif_t (by omega) (e_ro_append hr ho h1 (h2.row hr ho (Ne.symm hne) hv) hlen (fun M' h3 h4 => g_ro_appendTimes_24 hr ho ?_)))
    rw [zwr_id (by omega) (by omega)]
    refine ih (j + 1) M' (by omega) (by omega) ?_ (h2.tr h4)
    rw [show (j + 1).toNat = j.toNat + 1 by omega, List.replicate_succ', List.flatten_append]
    simpa using h3
theorem e_ro_appendTimes {k : Int} (hr : zRow r) (ho : zRow o) (hne : r ≠ o) (hu : rIs M r u) (hv : rIs M o v) (hk : 0 ≤ k) (hl : (u.length : Int) + k * v.length ≤ zln SH (r + 1)) (h : ∀ M', rIs M' r (u ++ (List.replicate k.toNat v).flatten) → rFr M M' r → Q 0 (SH, M', L)) : zEv (d + 4) m_ro_appendTimes [zR r, zR o, zI k] (SH, M, L) Q := by
  have hc := zRow_cap hr
  refine b_ro_appendTimes (g_ro_appendTimes_0 hr ho ?_)
  unfold zmin
  by_cases q : v = []
  · subst q
    refine ro_appendTimes_loop (u := u) hr ho hne hv (fun M' h1 h2 => h M' ?_ h2) (by omega) ?_ (min k (zln SH (r + 1))).toNat 0 M (by omega) (by omega) (by simpa using hu) rFr.rf
    · simpa using h1
    · have := hu.2.2; simpa using this
  · have hv1 : 0 < v.length := List.length_pos_iff.mpr q
    have e1 : k * 1 ≤ k * v.length := Int.mul_le_mul_of_nonneg_left (by omega) hk
    have e2 : min k (zln SH (r + 1)) = k := by omega
    rw [e2]
    exact ro_appendTimes_loop (u := u) hr ho hne hv h (by omega) hl k.toNat 0 M (by omega) (by omega) (by simpa using hu) rFr.rf
end RP
