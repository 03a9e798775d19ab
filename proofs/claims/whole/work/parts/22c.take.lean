/-! the reference: the least word, the outer loop -/
section MU
variable {d : Nat} {M L : zM} {Q : Int → zW → Prop} {r o : Nat} {P R : Nat → Nat} {u : List Int} {last : Bool}
theorem mo_takes_out (hr : zkd SH r = 20) (ho : zkd SH o = 20) (ho1 : o ≠ 130) (ho2 : o ≠ 113) (ho3 : o ≠ 114) (hol : (u.length : Int) ≤ zln SH o) (hl : lIs M 112 P R) (hlo : lOk P R) (h28 : u.length ≤ 28)
    (h : ∀ M', aIs M' o (lw P R last u) → cFr [130, o] M M' → Q 0 (SH, M', L)) :
    ∀ (n : Nat) (t v : List Int) (Mk : zM) (v6 v7 : zV), v.length = n → t.length + v.length = u.length → lw P R last u = t ++ lw P R last v → isW v → aIs Mk 130 v → (∀ j, j < t.length → Mk o j = t.getD j 0) → cFr [130, o] M Mk →
      zEx (d + 3) m_mo_takes zb0 Q 29 ([zR 112, zR r, zI (u.length : Int), zR o, zI (bI last), zI (t.length : Int), v6, v7], [], SH, Mk, L) := by
  intro n
  induction n with
  | zero =>
    intro t v Mk v6 v7 hn hk he hw hv ht hf
    have hv0 : v = [] := List.length_eq_zero_iff.mp hn
    subst hv0
    have e : lw P R last u = t := by rw [he]; exact List.append_nil t
    refine g_mo_takes_29 hr ho (zif_f (by omega) (h Mk ⟨fun j hj => ?_, by rw [lw_len]; exact hol⟩ hf))
    rw [e] at hj ⊢
    exact ht j hj
  | succ n ih =>
    intro t v Mk v6 v7 hn hk he hw hv ht hf
    have hlk : lIs Mk 112 P R := cFr.law hf hl (by simp; omega) (by simp; omega)
    refine g_mo_takes_29 hr ho (zif_t (by omega) ?_)
    refine mo_takes_in (k := t.length) hr ho hv hw hlk hlo hk h28 (fun b hb hrb hbest => ?_) (by omega) v.length 0 (-9) (by omega) (Or.inl ⟨rfl, fun q hq => by omega⟩)
    have hvl : zwr ((u.length : Int) - (t.length : Int)) = (v.length : Int) := by rw [zwr_id (by omega) (by omega)]; omega
    refine g_mo_takes_42 hr ho (zif_f (by rw [hvl]; omega) (zck_i ⟨by omega, by omega⟩ (zck_i ⟨by omega, by omega⟩ ?_)))
    rw [hvl, Int.toNat_natCast, Int.toNat_natCast, hv.1 b hb]
    refine e_mo_goes zk_130 (by rw [zl_130]; omega) (u := v) ⟨fun j hj => ?_, hv.2⟩ hb rfl (fun M' h1 h2 => g_mo_takes_145 hr ho ?_)
    · rw [zmu_kf (Ne.symm ho1)]; exact hv.1 j hj
    · rw [zwr_id (by omega) (by omega)]
      have hs := lw_step hb hrb hbest
      have hdl : (v.take b ++ v.drop (b + 1)).length = n := by simp; omega
      have := ih (t ++ [v.getD b 0]) (v.take b ++ v.drop (b + 1)) M' (zI (b : Int)) (zI (v.length : Int)) hdl (by simp; omega) (by rw [he, hs]; simp) (isW_del hw b) h1 (fun j hj => ?_) (fun a ha => ?_)
      · simpa using this
      · rw [h2 o (by simpa using ho1)]
        by_cases g : j = t.length
        · subst g
          rw [zmu_s]; simp
        · have hj2 : j < t.length := by simp at hj; omega
          rw [zmu_j g, ht j hj2]
          simp [List.getElem?_append_left hj2]
      · have ha' : a ≠ 130 ∧ a ≠ o := by simpa using ha
        rw [h2 a (by simpa using ha'.1), zmu_kf ha'.2]
        exact hf a ha
theorem e_mo_takes (hr : zkd SH r = 20) (hr1 : r ≠ 130) (ho : zkd SH o = 20) (ho1 : o ≠ 130) (ho2 : o ≠ 113) (ho3 : o ≠ 114) (hol : (u.length : Int) ≤ zln SH o) (hl : lIs M 112 P R) (hlo : lOk P R) (hv : aIs M r u) (hw : isW u) (h28 : u.length ≤ 28)
    (h : ∀ M', aIs M' o (lw P R last u) → cFr [130, o] M M' → Q 0 (SH, M', L)) : zEv (d + 3) m_mo_takes [zR 112, zR r, zI (u.length : Int), zR o, zI (bI last)] (SH, M, L) Q := by
  refine b_mo_takes (g_mo_takes_0 hr ho ?_)
  have := mo_takes_copy (d := d) (Q := Q) (L := L) (o := o) (last := last) hr ho hr1 hv h28 (fun M' h1 h2 => ?_) u.length 0 M (by omega) (fun b hb => by omega) cFr.rf
  · simpa using this
  · have hl' : lIs M' 112 P R := cFr.law h2 hl (by simp) (by simp)
    have := mo_takes_out (d := d) (Q := Q) (L := L) (r := r) (last := last) hr ho ho1 ho2 ho3 hol hl' hlo h28 (fun M'' h3 h4 => h M'' h3 (fun a ha => ?_)) u.length [] u M' zN zN rfl (by simp) rfl hw h1 (fun j hj => by simp at hj) cFr.rf
    · simpa using this
    · have ha' : a ≠ 130 ∧ a ≠ o := by simpa using ha
      rw [h4 a ha]; exact h2 a (by simpa using ha'.1)
end MU
