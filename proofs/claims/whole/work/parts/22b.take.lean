/-! the reference: the least word -/
theorem rp_ne {P : Nat → Nat} {v : List Int} {p q : Nat} (hp : rp P v p = true) (hq : rp P v q = true) (hpl : p < v.length) (hql : q < v.length) (hne : p ≠ q) : v.getD p 0 ≠ v.getD q 0 := by
  have key : ∀ a b : Nat, a < b → b < v.length → rp P v b = true → v.getD b 0 ≠ v.getD a 0 := by
    intro a b hab hb hr g
    unfold rp at hr
    have := List.all_eq_true.mp hr (v.getD a 0) (by
      rw [List.getD_eq_getElem?_getD, List.getElem?_eq_getElem (by omega)]
      exact List.mem_take_iff_getElem.mpr ⟨a, by omega, rfl⟩)
    rw [g, psL_irr] at this
    cases this
  rcases Nat.lt_or_gt_of_ne hne with h | h
  · exact Ne.symm (key p q h hql hq)
  · exact key q p h hpl hp
/-- the best ready place among the first p -/
def bst (P R : Nat → Nat) (last : Bool) (v : List Int) (p : Nat) (best : Int) : Prop := (best = -9 ∧ ∀ q, q < p → rp P v q = false) ∨ ∃ b : Nat, best = b ∧ b < p ∧ rp P v b = true ∧ ∀ q, q < p → q ≠ b → rp P v q = true → ltS R last (v.getD b 0) (v.getD q 0) = true
theorem lw_step {P R : Nat → Nat} {last : Bool} {v : List Int} {b : Nat} (hb : b < v.length) (hr : rp P v b = true) (hbest : ∀ q, q < v.length → q ≠ b → rp P v q = true → ltS R last (v.getD b 0) (v.getD q 0) = true) : lw P R last v = v.getD b 0 :: lw P R last (v.take b ++ v.drop (b + 1)) := by
  have hI : isLw (psL P) (fun a b => ltS R last a b = true) (v.getD b 0 :: lw P R last (v.take b ++ v.drop (b + 1))) v := by
    refine ⟨_, tk_at (psL_irr P) v b hb hr, fun c v'' hc hne => ?_, lw_ok P R last _⟩
    obtain ⟨q, h1, h2, h3⟩ := tk_place hc
    have hqb : q ≠ b := fun g => by rw [g] at h2; exact hne h2.symm
    have := hbest q h1 hqb (by unfold rp; rw [h2]; exact h3)
    rw [h2] at this
    exact this
  exact (lw_one hI).symm
theorem isW_del {v : List Int} (h : isW v) (b : Nat) : isW (v.take b ++ v.drop (b + 1)) := fun a ha => by
  rcases List.mem_append.mp ha with q | q
  · exact h a (List.mem_of_mem_take q)
  · exact h a (List.mem_of_mem_drop q)
section MT
variable {d : Nat} {M L : zM} {Q : Int → zW → Prop} {r o : Nat} {P R : Nat → Nat} {u : List Int} {last : Bool}
theorem cFr.arr {S : List Nat} {M M' : zM} {a : Nat} {u : List Int} (h : cFr S M M') (hu : aIs M a u) (h1 : a ∉ S) : aIs M' a u := ⟨fun j hj => by rw [h a h1]; exact hu.1 j hj, hu.2⟩
theorem mo_takes_copy (hr : zkd SH r = 20) (ho : zkd SH o = 20) (hne : r ≠ 130) (hv : aIs M r u) (h28 : u.length ≤ 28) (h : ∀ M', aIs M' 130 u → cFr [130] M M' → zEx (d + 3) m_mo_takes zb0 Q 29 ([zR 112, zR r, zI (u.length : Int), zR o, zI (bI last), zI 0, zN, zN], [], SH, M', L)) :
    ∀ (n k : Nat) (Mk : zM), k + n = u.length → (∀ b, b < k → Mk 130 b = u.getD b 0) → cFr [130] M Mk → zEx (d + 3) m_mo_takes zb0 Q 3 ([zR 112, zR r, zI (u.length : Int), zR o, zI (bI last), zI (k : Int), zN, zN], [], SH, Mk, L) := by
  have hul := hv.2
  intro n
  induction n with
  | zero =>
    intro k Mk hk h1 h2
    refine g_mo_takes_3 hr ho (zif_f (by omega) (h Mk ⟨fun b hb => h1 b (by omega), by rw [zl_130]; omega⟩ h2))
  | succ n ih =>
    intro k Mk hk h1 h2
    refine g_mo_takes_3 hr ho (zif_t (by omega) (zck_i ⟨by omega, by omega⟩ (zck_i ⟨by omega, by omega⟩ ?_)))
    rw [zwr_id (by omega) (by omega), show ((k : Int) + 1) = ((k + 1 : Nat) : Int) by omega, Int.toNat_natCast]
    refine ih (k + 1) _ (by omega) (fun b hb => ?_) (fun a ha => ?_)
    · by_cases q : b = k
      · subst q
        rw [zmu_s, h2 r (by simpa using hne), hv.1 _ (by omega)]
      · rw [zmu_j q]; exact h1 b (by omega)
    · rw [zmu_kf (by simpa using ha)]; exact h2 a ha
theorem mo_takes_in {k : Nat} {v : List Int} (hr : zkd SH r = 20) (ho : zkd SH o = 20) (hv : aIs M 130 v) (hw : isW v) (hl : lIs M 112 P R) (hlo : lOk P R) (hk : k + v.length = u.length) (h28 : u.length ≤ 28)
    (h : ∀ b : Nat, b < v.length → rp P v b = true → (∀ q, q < v.length → q ≠ b → rp P v q = true → ltS R last (v.getD b 0) (v.getD q 0) = true) → zEx (d + 3) m_mo_takes zb0 Q 42 ([zR 112, zR r, zI (u.length : Int), zR o, zI (bI last), zI (k : Int), zI (b : Int), zI (v.length : Int)], [], SH, M, L)) (h0 : 0 < v.length) :
    ∀ (m p : Nat) (best : Int), p + m = v.length → bst P R last v p best → zEx (d + 3) m_mo_takes zb0 Q 42 ([zR 112, zR r, zI (u.length : Int), zR o, zI (bI last), zI (k : Int), zI best, zI (p : Int)], [], SH, M, L) := by
  intro m
  induction m with
  | zero =>
    intro p best hp hb
    have hpe : p = v.length := by omega
    subst hpe
    rcases hb with ⟨_, h2⟩ | ⟨b, rfl, h3, h4, h5⟩
    · have := h2 0 h0
      simp [rp] at this
    · exact h b h3 h4 h5
  | succ m ih =>
    intro p best hp hb
    refine g_mo_takes_42 hr ho (zif_t (by rw [zwr_id (by omega) (by omega)]; omega) (e_mo_isReady zk_130 (by rw [zl_130]; omega) hl hlo hv hw (by omega) (g_mo_takes_61 hr ho ?_)))
    rw [zwr_id (by omega) (by omega), show ((p : Int) + 1) = ((p + 1 : Nat) : Int) by omega]
    have ih2 := fun best hb => ih (p + 1) best (by omega) hb
    cases hrp : rp P v p
    · refine zif_t (by simp) (ih2 best ?_)
      rcases hb with ⟨h1, h2⟩ | ⟨b, h1, h3, h4, h5⟩
      · exact Or.inl ⟨h1, fun q hq => by by_cases g : q = p; exact g ▸ hrp; exact h2 q (by omega)⟩
      · refine Or.inr ⟨b, h1, by omega, h4, fun q hq hne hrq => ?_⟩
        by_cases g : q = p
        · rw [g, hrp] at hrq; cases hrq
        · exact h5 q (by omega) hne hrq
    · refine zif_f (by simp) ?_
      rcases hb with ⟨h1, h2⟩ | ⟨b, h1, h3, h4, h5⟩
      · subst h1
        refine zif_t rfl (ih2 _ (Or.inr ⟨p, rfl, by omega, hrp, fun q hq hne hrq => ?_⟩))
        rw [h2 q (by omega)] at hrq; cases hrq
      · subst h1
        have hvp := isW_at hw (show p < v.length by omega)
        have hvb := isW_at hw (show b < v.length by omega)
        have hne := rp_ne hrp h4 (by omega) (by omega) (by omega)
        have hlt := ltS_rank (last := last) hlo hvp hvb hne
        have hR : R (v.getD p 0).toNat ≠ R (v.getD b 0).toNat := fun q => by have := hlo.2.2.2.2 _ _ (by omega) (by omega) q; omega
        rw [Int.toNat_natCast, Int.toNat_natCast, hv.1 p (by omega), hv.1 b (by omega)]
        refine zif_f (by omega) (zck_i ⟨by omega, by omega⟩ (zck_i hvp (zck_i ⟨by omega, by omega⟩ (zck_i hvb ?_))))
        rw [(hl _ (by omega)).2, (hl _ (by omega)).2]
        have keep : ltS R last (v.getD p 0) (v.getD b 0) = false → bst P R last v (p + 1) (b : Int) := fun g => by
          refine Or.inr ⟨b, rfl, by omega, h4, fun q hq hqb hrq => ?_⟩
          by_cases gq : q = p
          · rw [gq]
            rcases ltS_to R last _ _ hne with z | z
            · rw [g] at z; cases z
            · exact z
          · exact h5 q (by omega) hqb hrq
        have take : ltS R last (v.getD p 0) (v.getD b 0) = true → bst P R last v (p + 1) (p : Int) := fun g => by
          refine Or.inr ⟨p, rfl, by omega, hrp, fun q hq hqp hrq => ?_⟩
          by_cases gq : q = b
          · rw [gq]; exact g
          · exact ltS_tr R last _ _ _ g (h5 q (by omega) gq hrq)
        refine zif_c (fun g => zif_c (fun g2 => ?_) (fun g2 => ?_)) (fun g => zif_c (fun g2 => ?_) (fun g2 => ?_))
        · refine ih2 _ (keep ?_)
          rw [hlt, if_neg (by omega)]
          cases last
          · simp [bI] at g2
          · rfl
        · refine ih2 _ (take ?_)
          rw [hlt, if_neg (by omega)]
          cases last
          · rfl
          · simp [bI] at g2
        · refine ih2 _ (keep ?_)
          rw [hlt, if_pos (by omega)]
          cases last
          · rfl
          · simp [bI] at g2
        · refine ih2 _ (take ?_)
          rw [hlt, if_pos (by omega)]
          cases last
          · simp [bI] at g2
          · rfl
end MT
