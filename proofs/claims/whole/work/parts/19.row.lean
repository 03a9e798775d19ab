/-! contracts of Row -/
/-- the Row r holds u -/
def rIs (M : zM) (r : Nat) (u : List Int) : Prop := M r 1 = u.length ∧ (∀ j, j < u.length → M (r + 1) j = u.getD j 0) ∧ (u.length : Int) ≤ zln SH (r + 1)
/-- nothing but the Row r has changed -/
def rFr (M M' : zM) (r : Nat) : Prop := ∀ k, k ≠ r → k ≠ r + 1 → M' k = M k
theorem rFr.rf {M : zM} {r : Nat} : rFr M M r := fun _ _ _ => rfl
theorem rFr.tr {M M' M'' : zM} {r : Nat} (h : rFr M M' r) (h' : rFr M' M'' r) : rFr M M'' r := fun k a b => (h' k a b).trans (h k a b)
theorem rFr.is {M M' : zM} {r o : Nat} {u : List Int} (h : rFr M M' r) (hu : rIs M o u) (h1 : o ≠ r) (h2 : o ≠ r + 1) (h3 : o + 1 ≠ r) : rIs M' o u := by
  refine ⟨by rw [h o h1 h2]; exact hu.1, fun j hj => by rw [h (o + 1) h3 (by omega)]; exact hu.2.1 j hj, hu.2.2⟩
theorem zRow_cap {r : Nat} (h : zRow r) : zln SH (r + 1) ≤ 100 ∧ 0 ≤ zln SH (r + 1) := h.2.2.2
/-- the place i of u, or -9 -/
def rget (u : List Int) (i : Int) : Int := if 0 ≤ i ∧ i < u.length then u.getD i.toNat 0 else -9
theorem rget_in {u : List Int} {i : Int} (h : 0 ≤ i ∧ i < u.length) : rget u i = u.getD i.toNat 0 := if_pos h
theorem rget_out {u : List Int} {i : Int} (h : ¬ (0 ≤ i ∧ i < u.length)) : rget u i = -9 := if_neg h
section RO
variable {d : Nat} {M L : zM} {Q : Int → zW → Prop} {r o : Nat} {u v : List Int}
theorem e_ro_size (hr : zRow r) (hu : rIs M r u) (h : Q u.length (SH, M, L)) : zEv (d + 1) m_ro_size [zR r] (SH, M, L) Q := b_ro_size (g_ro_size_0 hr (by rw [hu.1]; exact h))
theorem e_ro_get {i : Int} (hr : zRow r) (hu : rIs M r u) (h : Q (rget u i) (SH, M, L)) : zEv (d + 1) m_ro_get [zR r, zI i] (SH, M, L) Q := by
  have hc := zRow_cap hr
  refine b_ro_get (g_ro_get_0 hr (zif_c (fun h1 => ?_) (fun h1 => ?_)))
  · rw [rget_out (by omega)] at h; exact h
  · rw [hu.1]
    refine zif_c (fun h2 => zck_i ⟨by omega, by have := hu.2.2; omega⟩ ?_) (fun h2 => ?_)
    · rw [rget_in (by omega)] at h
      rw [hu.2.1 _ (by omega)]
      exact h
    · rw [rget_out (by omega)] at h; exact h
theorem rIs_set {i : Int} {x : Int} (hu : rIs M r u) (h0 : 0 ≤ i) (hi : i < u.length) : rIs (zmu M (r + 1) i.toNat x) r (u.set i.toNat x) := by
  refine ⟨by rw [zmu_k (by omega), List.length_set]; exact hu.1, fun j hj => ?_, by rw [List.length_set]; exact hu.2.2⟩
  rw [List.length_set] at hj
  rw [List.getD_eq_getElem?_getD, List.getElem?_set]
  by_cases q : i.toNat = j
  · subst q; rw [zmu_s, if_pos rfl, if_pos hj]; rfl
  · rw [zmu_j (Ne.symm q), if_neg q, ← List.getD_eq_getElem?_getD]; exact hu.2.1 j hj
theorem rFr_mu {j : Nat} {x : Int} : rFr M (zmu M (r + 1) j x) r := fun k _ h2 => zmu_kf h2
theorem rFr_mu0 {j : Nat} {x : Int} : rFr M (zmu M r j x) r := fun k h1 _ => zmu_kf h1
/-- what set does -/
def rset (u : List Int) (i x : Int) : List Int := if 0 ≤ i ∧ i < u.length then u.set i.toNat x else u
theorem e_ro_set {i x : Int} (hr : zRow r) (hu : rIs M r u) (h : ∀ M', rIs M' r (rset u i x) → rFr M M' r → Q 0 (SH, M', L)) : zEv (d + 1) m_ro_set [zR r, zI i, zI x] (SH, M, L) Q := by
  have hc := zRow_cap hr
  unfold rset at h
  refine b_ro_set (g_ro_set_0 hr (zif_c (fun h1 => ?_) (fun h1 => ?_)))
  · rw [if_neg (by omega)] at h; exact h M hu rFr.rf
  · rw [hu.1]
    refine zif_c (fun h2 => zck_i ⟨by omega, by have := hu.2.2; omega⟩ ?_) (fun h2 => ?_)
    · rw [if_pos (by omega)] at h; exact h _ (rIs_set hu (by omega) h2) rFr_mu
    · rw [if_neg (by omega)] at h; exact h M hu rFr.rf
def rhas (n : Nat) (i k : Int) : Bool := decide (k = 0 ∨ 0 ≤ i ∧ 0 < k ∧ i + k ≤ n)
theorem e_ro_has {i k : Int} (hr : zRow r) (hu : rIs M r u) (hi : zr32 i) (hk : zr32 k) (h : Q (if rhas u.length i k then 1 else 0) (SH, M, L)) : zEv (d + 1) m_ro_has [zR r, zI i, zI k] (SH, M, L) Q := by
  have hc := zRow_cap hr
  unfold zr32 at hi hk
  have hz : zwl (i + k) = i + k := zwl_id (by omega) (by omega)
  unfold rhas at h
  refine b_ro_has (g_ro_has_0 hr (zif_c (fun h1 => ?_) (fun h1 => zif_c (fun h2 => ?_) (fun h2 => zif_c (fun h3 => ?_) (fun h3 => ?_)))))
  · simp [h1] at h; exact h
  · rw [decide_eq_false (by omega)] at h; exact h
  · rw [hz, hu.1]
    unfold zcmp
    by_cases h4 : (u.length : Int) < i + k
    · rw [decide_eq_false (by omega)] at h; rw [if_pos h4]; exact h
    · rw [decide_eq_true (by omega)] at h
      rw [if_neg h4]
      by_cases h5 : i + k = u.length
      · rw [if_pos h5]; exact h
      · rw [if_neg h5]; exact h
  · rw [decide_eq_false (by omega)] at h; exact h
theorem e_ro_clear (hr : zRow r) (h : ∀ M', rIs M' r [] → rFr M M' r → Q 0 (SH, M', L)) : zEv (d + 1) m_ro_clear [zR r] (SH, M, L) Q := by
  have hc := zRow_cap hr
  exact b_ro_clear (g_ro_clear_0 hr (h _ ⟨zmu_s, fun j hj => by simp at hj, by simp; omega⟩ rFr_mu0))
theorem e_ro_shorten {n : Int} (hr : zRow r) (hu : rIs M r u) (h0 : 0 ≤ n) (h : ∀ M', rIs M' r (u.take n.toNat) → rFr M M' r → Q 0 (SH, M', L)) : zEv (d + 1) m_ro_shorten [zR r, zI n] (SH, M, L) Q := by
  refine b_ro_shorten (g_ro_shorten_0 hr (zif_f (by omega) (zif_c (fun h1 => ?_) (fun h1 => ?_))))
  · rw [hu.1] at h1
    have hl : (u.take n.toNat).length = n.toNat := by rw [List.length_take]; omega
    refine h _ ⟨by rw [zmu_s, hl]; omega, fun j hj => ?_, by rw [hl]; have := hu.2.2; omega⟩ rFr_mu0
    rw [hl] at hj
    rw [zmu_k (by omega), hu.2.1 j (by omega), List.getD_eq_getElem?_getD, List.getD_eq_getElem?_getD, List.getElem?_take_of_lt hj]
  · rw [hu.1] at h1
    rw [List.take_of_length_le (by omega)] at h
    exact h M hu rFr.rf
theorem rIs_push {x : Int} (hu : rIs M r u) (hl : (u.length : Int) < zln SH (r + 1)) : rIs (zmu (zmu M (r + 1) u.length x) r 1 (u.length + 1)) r (u ++ [x]) := by
  refine ⟨by rw [zmu_s]; simp, fun j hj => ?_, by simp; omega⟩
  rw [zmu_k (by omega)]
  rw [List.length_append] at hj
  simp at hj
  by_cases q : j = u.length
  · subst q; rw [zmu_s]; simp
  · rw [zmu_j q, hu.2.1 j (by omega), List.getD_eq_getElem?_getD, List.getD_eq_getElem?_getD, List.getElem?_append_left (by omega)]
theorem e_ro_add {x : Int} (hr : zRow r) (hu : rIs M r u) (h : ∀ M', rIs M' r (if (u.length : Int) < zln SH (r + 1) then u ++ [x] else u) → rFr M M' r → Q 0 (SH, M', L)) : zEv (d + 1) m_ro_add [zR r, zI x] (SH, M, L) Q := by
  have hc := zRow_cap hr
  refine b_ro_add (g_ro_add_0 hr ?_)
  rw [hu.1]
  refine zif_c (fun h1 => zck_i ⟨by omega, h1⟩ ?_) (fun h1 => ?_)
  · rw [if_pos h1] at h
    rw [zmu_k (by omega), hu.1, zwr_id (by omega) (by omega), Int.toNat_natCast]
    exact h _ (rIs_push hu h1) (rFr_mu.tr rFr_mu0)
  · rw [if_neg h1] at h
    exact h M hu rFr.rf
end RO
