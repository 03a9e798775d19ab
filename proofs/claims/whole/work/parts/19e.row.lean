/-! contracts of Row: more loops -/
/-- at how many places u is otherwise than v (which is as long) -/
def hmO : List Int → List Int → Nat
  | a :: u, b :: v => (if a = b then 0 else 1) + hmO u v
  | _, _ => 0
section RT
variable {d : Nat} {M L : zM} {Q : Int → zW → Prop} {r o : Nat} {u v : List Int}
theorem hmO_le : ∀ (u v : List Int), hmO u v ≤ u.length
  | [], v => by simp [hmO]
  | a :: u, [] => by simp [hmO]
  | a :: u, b :: v => by
    have := hmO_le u v
    simp only [hmO, List.length_cons]
    split <;> omega
theorem ro_howMany_loop {res : Nat} (hr : zRow r) (ho : zRow o) (hu : rIs M r u) (hv : rIs M o v) (hl : u.length = v.length) (h : Q (res : Int) (SH, M, L)) :
    ∀ (u' : List Int) (k t : Nat), u.drop k = u' → k ≤ u.length → t + hmO u' (v.drop k) = res → t ≤ k → zEx (d + 2) m_ro_howManyOther zb0 Q 4 ([zR r, zR o, zI (t : Int), zI (k : Int)], [], SH, M, L) := by
  have hc := zRow_cap hr
  have hul := hu.2.2
  intro u'
  induction u' with
  | nil =>
    intro k t hd hk hp ht
    have : u.length ≤ k := by have := congrArg List.length hd; simp at this; omega
    refine g_ro_howManyOther_4 hr ho (zif_f (by rw [hu.1]; omega) ?_)
    simp [hmO] at hp
    rw [hp]
    exact h
  | cons a u' ih =>
    intro k t hd hk hp ht
    obtain ⟨h1, h2, h3⟩ := drop_cons hd
    refine g_ro_howManyOther_4 hr ho (zif_t (by rw [hu.1]; omega) (zck_i ⟨by omega, by omega⟩ (e_ro_get ho hv (g_ro_howManyOther_23 hr ho ?_))))
    rw [Int.toNat_natCast, hu.2.1 _ (by omega), h1, rget_in ⟨by omega, by omega⟩, Int.toNat_natCast, zwr_id (x := (k : Int) + 1) (by omega) (by omega), zwr_id (by omega) (by omega)]
    have hvk : k < v.length := by omega
    have hdv : v.drop k = v.getD k 0 :: v.drop (k + 1) := by
      rw [List.drop_eq_getElem_cons hvk, List.getD_eq_getElem?_getD, List.getElem?_eq_getElem hvk]; rfl
    rw [hdv] at hp
    simp only [hmO] at hp
    refine zif_c (fun g => ?_) (fun g => ?_)
    · rw [if_pos g] at hp
      have := ih (k + 1) t h2 (by omega) (by omega) (by omega)
      simpa using this
    · rw [if_neg g] at hp
      have := ih (k + 1) (t + 1) h2 (by omega) (by omega) (by omega)
      simpa using this
theorem e_ro_howManyOther (hr : zRow r) (ho : zRow o) (hu : rIs M r u) (hv : rIs M o v) (hl : u.length = v.length) (h : Q (hmO u v : Int) (SH, M, L)) : zEv (d + 2) m_ro_howManyOther [zR r, zR o] (SH, M, L) Q :=
  b_ro_howManyOther (g_ro_howManyOther_0 hr ho (by simpa using ro_howMany_loop (d := d) hr ho hu hv hl h u 0 0 rfl (by omega) (by simp) (by omega)))
theorem ro_isWord_loop {res : Int} (hr : zRow r) (hu : rIs M r u) (h : Q res (SH, M, L)) :
    ∀ (u' : List Int) (k : Nat), u.drop k = u' → k ≤ u.length → (if u'.all (fun a => decide (0 ≤ a ∧ a < 6)) then 1 else 0) = res → zEx (d + 2) m_ro_isWord zb0 Q 2 ([zR r, zI (k : Int)], [], SH, M, L) := by
  have hc := zRow_cap hr
  have hul := hu.2.2
  intro u'
  induction u' with
  | nil =>
    intro k hd hk hp
    have : u.length ≤ k := by have := congrArg List.length hd; simp at this; omega
    refine g_ro_isWord_2 hr (zif_f (by rw [hu.1]; omega) ?_)
    simp at hp
    rw [hp]; exact h
  | cons a u' ih =>
    intro k hd hk hp
    obtain ⟨h1, h2, h3⟩ := drop_cons hd
    refine g_ro_isWord_2 hr (zif_t (by rw [hu.1]; omega) (zck_i ⟨by omega, by omega⟩ (e_lt_noLetter (g_ro_isWord_19 hr ?_))))
    rw [Int.toNat_natCast, hu.2.1 _ (by omega), h1, zwr_id (by omega) (by omega)]
    rw [List.all_cons] at hp
    by_cases q : 0 ≤ a ∧ a < 6
    · rw [if_pos q]
      rw [decide_eq_true q, Bool.true_and] at hp
      refine zif_t rfl ?_
      have := ih (k + 1) h2 (by omega) hp
      simpa using this
    · rw [if_neg q]
      rw [decide_eq_false q, Bool.false_and, if_neg (by decide)] at hp
      refine zif_f (by decide) ?_
      rw [hp]; exact h
theorem e_ro_isWord (hr : zRow r) (hu : rIs M r u) (h : Q (if u.all (fun a => decide (0 ≤ a ∧ a < 6)) then 1 else 0) (SH, M, L)) : zEv (d + 2) m_ro_isWord [zR r] (SH, M, L) Q :=
  b_ro_isWord (g_ro_isWord_0 hr (by simpa using ro_isWord_loop (d := d) hr hu h u 0 rfl (by omega) rfl))
theorem ro_addTimes_loop {x k m : Int} (hr : zRow r) (h : ∀ M', rIs M' r (u ++ List.replicate m.toNat x) → rFr M M' r → Q 0 (SH, M', L)) (hm : m ≤ 100) (hl : (u.length : Int) + m ≤ zln SH (r + 1)) :
    ∀ (n : Nat) (j : Int) (Mj : zM), 0 ≤ j → j + n = m → rIs Mj r (u ++ List.replicate j.toNat x) → rFr M Mj r →
      zEx (d + 2) m_ro_addTimes zb0 Q 13 ([zR r, zI x, zI k, zI m, zI j], [], SH, Mj, L) := by
  intro n
  induction n with
  | zero =>
    intro j Mj hj0 hjn h1 h2
    refine g_ro_addTimes_13 hr (zif_f (by omega) ?_)
    rw [show j = m by omega] at h1
    exact h Mj h1 h2
  | succ n ih =>
    intro j Mj hj0 hjn h1 h2
    refine g_ro_addTimes_13 hr (zif_t (by omega) (e_ro_add hr h1 (fun M' h3 h4 => g_ro_addTimes_24 hr ?_)))
    rw [zwr_id (by omega) (by omega)]
    refine ih (j + 1) M' (by omega) (by omega) ?_ (h2.tr h4)
    rw [if_pos (by simp; omega)] at h3
    rw [show (j + 1).toNat = j.toNat + 1 by omega, List.replicate_succ', ← List.append_assoc]
    exact h3
theorem e_ro_addTimes {x k : Int} (hr : zRow r) (hu : rIs M r u) (hk : 0 ≤ k) (hl : (u.length : Int) + k ≤ zln SH (r + 1)) (h : ∀ M', rIs M' r (u ++ List.replicate k.toNat x) → rFr M M' r → Q 0 (SH, M', L)) : zEv (d + 2) m_ro_addTimes [zR r, zI x, zI k] (SH, M, L) Q := by
  have hc := zRow_cap hr
  refine b_ro_addTimes (g_ro_addTimes_0 hr ?_)
  unfold zmin
  rw [show min k (zln SH (r + 1)) = k by omega]
  exact ro_addTimes_loop (u := u) hr h (by omega) hl k.toNat 0 M (by omega) (by omega) (by simpa using hu) rFr.rf
/-- laid over u from i on -/
def lay (u : List Int) (i : Nat) (v : List Int) : List Int := u.take i ++ v ++ u.drop (i + v.length)
theorem lay_len {u v : List Int} {i : Nat} (h : i + v.length ≤ u.length) : (lay u i v).length = u.length := by
  unfold lay
  simp
  omega
theorem ro_overwrite_loop {i : Int} (hr : zRow r) (ho : zRow o) (hne : r ≠ o) (hu : rIs M r u) (hv : rIs M o v) (hi : v = [] ∨ 0 ≤ i ∧ i + v.length ≤ u.length) (h : ∀ M', rIs M' r (if v = [] then u else lay u i.toNat v) → rFr M M' r → Q 0 (SH, M', L)) :
    ∀ (n k : Nat) (Mk : zM), k + n = v.length → rIs Mk r (if v.take k = [] then u else lay u i.toNat (v.take k)) → rFr M Mk r →
      zEx (d + 2) m_ro_overwrite zb0 Q 2 ([zR r, zI i, zR o, zI (k : Int)], [], SH, Mk, L) := by
  have hc := zRow_cap hr
  have hc2 := zRow_cap ho
  have hul := hu.2.2
  have hvl := hv.2.2
  intro n
  induction n with
  | zero =>
    intro k Mk hk h1 h2
    have hv1 := h2.row hr ho (Ne.symm hne) hv
    refine g_ro_overwrite_2 hr ho (zif_f (by rw [hv1.1]; omega) ?_)
    rw [List.take_of_length_le (by omega)] at h1
    exact h Mk h1 h2
  | succ n ih =>
    intro k Mk hk h1 h2
    have hv1 := h2.row hr ho (Ne.symm hne) hv
    have hi : 0 ≤ i ∧ i + v.length ≤ u.length := by
      rcases hi with q | q
      · rw [q] at hk; simp at hk
      · exact q
    have hlen : (if v.take k = [] then u else lay u i.toNat (v.take k)).length = u.length := by
      split
      · rfl
      · exact lay_len (by rw [List.length_take]; omega)
    refine g_ro_overwrite_2 hr ho (zif_t (by rw [hv1.1]; omega) (e_ro_get ho hv1 (g_ro_overwrite_19 hr ho hr ?_)))
    rw [zwr_id (by omega) (by omega), rget_in (by omega), Int.toNat_natCast]
    refine e_ro_set hr h1 (fun M' h3 h4 => g_ro_overwrite_22 hr ho ?_)
    rw [zwr_id (by omega) (by omega)]
    refine ih (k + 1) M' (by omega) ?_ (h2.tr h4)
    rw [rset_in (by rw [hlen]; omega)] at h3
    rw [if_neg (fun q => by have := congrArg List.length q; rw [List.length_take, List.length_nil] at this; omega)]
    have e : (if v.take k = [] then u else lay u i.toNat (v.take k)).set (i + k).toNat (v.getD k 0) = lay u i.toNat (v.take (k + 1)) := by
      have e1 : (if v.take k = [] then u else lay u i.toNat (v.take k)) = lay u i.toNat (v.take k) := by
        split
        · next q => rw [q]; unfold lay; simp
        · rfl
      rw [e1, take_succ_getD (by omega)]
      unfold lay
      have hl1 : (u.take i.toNat ++ v.take k).length = i.toNat + k := by simp; omega
      rw [show (i + k).toNat = i.toNat + k by omega]
      rw [List.set_append_right _ _ (by omega), hl1, Nat.sub_self]
      have hd : u.drop (i.toNat + (v.take k).length) = u.getD (i.toNat + k) 0 :: u.drop (i.toNat + k + 1) := by
        rw [List.length_take, show min k v.length = k by omega, List.drop_eq_getElem_cons (by omega), List.getD_eq_getElem?_getD, List.getElem?_eq_getElem (by omega)]; rfl
      rw [hd]
      simp
      rw [show min k v.length = k by omega]
      congr 1
    rw [e] at h3
    exact h3
theorem e_ro_overwrite {i : Int} (hr : zRow r) (ho : zRow o) (hne : r ≠ o) (hu : rIs M r u) (hv : rIs M o v) (hi : v = [] ∨ 0 ≤ i ∧ i + v.length ≤ u.length) (h : ∀ M', rIs M' r (if v = [] then u else lay u i.toNat v) → rFr M M' r → Q 0 (SH, M', L)) : zEv (d + 2) m_ro_overwrite [zR r, zI i, zR o] (SH, M, L) Q :=
  b_ro_overwrite (g_ro_overwrite_0 hr ho (by simpa using ro_overwrite_loop (d := d) hr ho hne hu hv hi h v.length 0 M (by omega) (by simpa using hu) rFr.rf))
end RT
