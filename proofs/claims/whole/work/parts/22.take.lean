/-! the reference: taking letters -/
theorem tk_at {ps : Int → Int → Bool} (hx : ∀ x, ps x x = false) : ∀ (v : List Int) (q : Nat), q < v.length → (v.take q).all (ps (v.getD q 0)) = true → tk ps (v.getD q 0) v = some (v.take q ++ v.drop (q + 1))
  | [], q, h, _ => by simp at h
  | a :: v, 0, _, _ => by simp [tk]
  | a :: v, q + 1, h, hall => by
    have hg : (a :: v).getD (q + 1) 0 = v.getD q 0 := rfl
    rw [hg] at hall ⊢
    rw [List.take_succ_cons, List.all_cons, Bool.and_eq_true] at hall
    have hne : a ≠ v.getD q 0 := fun g => by have := hall.1; rw [← g, hx] at this; cases this
    have := tk_at hx v q (by simpa using h) hall.2
    unfold tk
    rw [if_neg hne, if_pos hall.1, this]
    rfl
theorem tk_place {ps : Int → Int → Bool} {b : Int} : ∀ {v v' : List Int}, tk ps b v = some v' → ∃ q, q < v.length ∧ v.getD q 0 = b ∧ (v.take q).all (ps b) = true
  | [], v', h => by simp [tk] at h
  | a :: v, v', h => by
    unfold tk at h
    split at h
    · next hb => exact ⟨0, by simp, hb, rfl⟩
    · split at h
      · next hp =>
        cases hu : tk ps b v with
        | none => rw [hu] at h; cases h
        | some w =>
          obtain ⟨q, h1, h2, h3⟩ := tk_place hu
          exact ⟨q + 1, by simpa using h1, h2, by rw [List.take_succ_cons, List.all_cons, hp, h3]; rfl⟩
      · cases h
/-- the array a holds u in its first places -/
def aIs (M : zM) (a : Nat) (u : List Int) : Prop := (∀ j, j < u.length → M a j = u.getD j 0) ∧ (u.length : Int) ≤ zln SH a
/-- a place is ready -/
def rp (P : Nat → Nat) (u : List Int) (p : Nat) : Bool := (u.take p).all (psL P (u.getD p 0))
section MO
variable {d : Nat} {M L : zM} {Q : Int → zW → Prop} {r o : Nat} {P R : Nat → Nat} {u : List Int} {a b : Int}
theorem e_mo_passes_ (hu : lIs M 112 P R) (ho : lOk P R) (ha : 0 ≤ a ∧ a < 6) (hb : 0 ≤ b ∧ b < 6) (h : Q (if psL P a b then 1 else 0) (SH, M, L)) : zEv (d + 1) m_mo_passes_ [zR 112, zI a, zI b] (SH, M, L) Q := by
  refine b_mo_passes_ (g_mo_passes__0 (zck_i ha ?_))
  have hp := ho.1 a.toNat (by omega)
  have e := zbit_nat (a := P a.toNat) (k := b.toNat) (by omega) (by omega)
  rw [Int.toNat_of_nonneg hb.1] at e
  rw [psL_bit ho ha hb] at h
  rw [(hu a.toNat (by omega)).1, e]
  cases q : (P a.toNat).testBit b.toNat
  · rw [q] at h
    exact zif_f (by decide) h
  · rw [q] at h
    exact zif_t (by decide) h
theorem mo_isReady_loop {p : Nat} (hr : zkd SH r = 20) (hn : zln SH r ≤ 20000) (hu : lIs M 112 P R) (ho : lOk P R) (hv : aIs M r u) (hw : isW u) (hp : p < u.length) (h : Q (if rp P u p then 1 else 0) (SH, M, L)) :
    ∀ (n k : Nat), k + n = p → (u.take k).all (psL P (u.getD p 0)) = true → zEx (d + 2) m_mo_isReady zb0 Q 2 ([zR 112, zR r, zI (p : Int), zI (k : Int)], [], SH, M, L) := by
  have hul := hv.2
  intro n
  induction n with
  | zero =>
    intro k hk hall
    refine g_mo_isReady_2 hr (zif_f (by omega) ?_)
    have : k = p := by omega
    subst this
    unfold rp at h
    rw [hall] at h
    exact h
  | succ n ih =>
    intro k hk hall
    refine g_mo_isReady_2 hr (zif_t (by omega) (zck_i ⟨by omega, by omega⟩ (zck_i ⟨by omega, by omega⟩ ?_)))
    rw [Int.toNat_natCast, Int.toNat_natCast, hv.1 p hp, hv.1 k (by omega)]
    refine e_mo_passes_ hu ho (isW_at hw hp) (isW_at hw (by omega)) (g_mo_isReady_17 hr ?_)
    cases q : psL P (u.getD p 0) (u.getD k 0)
    · refine zif_t (by simp) ?_
      have hf : rp P u p = false := by
        unfold rp
        rw [List.all_eq_false]
        exact ⟨u.getD k 0, by
          rw [List.getD_eq_getElem?_getD, List.getElem?_eq_getElem (by omega)]
          exact List.mem_take_iff_getElem.mpr ⟨k, by omega, rfl⟩, by rw [q]; decide⟩
      rw [hf] at h
      exact h
    · refine zif_f (by simp) ?_
      rw [zwr_id (by omega) (by omega), show ((k : Int) + 1) = ((k + 1 : Nat) : Int) by omega]
      refine ih (k + 1) (by omega) ?_
      rw [take_succ_getD (by omega), List.all_append, hall, List.all_cons, q]
      rfl
theorem e_mo_isReady {p : Nat} (hr : zkd SH r = 20) (hn : zln SH r ≤ 20000) (hu : lIs M 112 P R) (ho : lOk P R) (hv : aIs M r u) (hw : isW u) (hp : p < u.length) (h : Q (if rp P u p then 1 else 0) (SH, M, L)) : zEv (d + 2) m_mo_isReady [zR 112, zR r, zI (p : Int)] (SH, M, L) Q :=
  b_mo_isReady (g_mo_isReady_0 hr (by simpa using mo_isReady_loop (d := d) hr hn hu ho hv hw hp h p 0 (by omega) rfl))
theorem mo_goes_loop {n : Int} {p : Nat} (hr : zkd SH r = 20) (hn : zln SH r ≤ 20000) (hv : aIs M r u) (hp : p < u.length) (hnl : n = u.length) (h : ∀ M', aIs M' r (u.take p ++ u.drop (p + 1)) → cFr [r] M M' → Q 0 (SH, M', L)) :
    ∀ (m k : Nat) (Mk : zM), k + m + 1 = u.length → p ≤ k → (∀ a, a ≠ r → Mk a = M a) → (∀ b, b < k → Mk r b = if b < p then u.getD b 0 else u.getD (b + 1) 0) → (∀ b, k ≤ b → b < u.length → Mk r b = u.getD b 0) →
      zEx (d + 1) m_mo_goes zb0 Q 2 ([zR r, zI n, zI (p : Int), zI (k : Int)], [], SH, Mk, L) := by
  have hul := hv.2
  have hl : (u.take p ++ u.drop (p + 1)).length = u.length - 1 := by simp; omega
  intro m
  induction m with
  | zero =>
    intro k Mk hk hpk h1 h2 h3
    refine g_mo_goes_2 hr (zif_f (by rw [zwr_id (by omega) (by omega)]; omega) ?_)
    refine h Mk ⟨fun b hb => ?_, by rw [hl]; omega⟩ (fun a ha => h1 a (by simpa using ha))
    rw [hl] at hb
    rw [getD_del hp]
    exact h2 b (by omega)
  | succ m ih =>
    intro k Mk hk hpk h1 h2 h3
    refine g_mo_goes_2 hr (zif_t (by rw [zwr_id (by omega) (by omega)]; omega) ?_)
    rw [zwr_id (x := (k : Int) + 1) (by omega) (by omega), show ((k : Int) + 1) = ((k + 1 : Nat) : Int) by omega, Int.toNat_natCast, Int.toNat_natCast]
    refine zck_i ⟨by omega, by omega⟩ (zck_i ⟨by omega, by omega⟩ ?_)
    refine ih (k + 1) _ (by omega) (by omega) (fun a ha => by rw [zmu_kf ha]; exact h1 a ha) (fun b hb => ?_) (fun b hb hb2 => ?_)
    · by_cases q : b = k
      · subst q
        rw [zmu_s, h3 _ (by omega) (by omega), if_neg (by omega)]
      · rw [zmu_j q]; exact h2 b (by omega)
    · rw [zmu_j (by omega)]; exact h3 b (by omega) hb2
theorem e_mo_goes {n : Int} {p : Nat} (hr : zkd SH r = 20) (hn : zln SH r ≤ 20000) (hv : aIs M r u) (hp : p < u.length) (hnl : n = u.length) (h : ∀ M', aIs M' r (u.take p ++ u.drop (p + 1)) → cFr [r] M M' → Q 0 (SH, M', L)) : zEv (d + 1) m_mo_goes [zR r, zI n, zI (p : Int)] (SH, M, L) Q :=
  b_mo_goes (g_mo_goes_0 hr (mo_goes_loop hr hn hv hp hnl h (u.length - p - 1) p M (by omega) (by omega) (fun _ _ => rfl) (fun b hb => by rw [if_pos hb]; exact hv.1 b (by omega)) (fun b hb hb2 => hv.1 b hb2)))
end MO
