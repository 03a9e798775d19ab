/-! the reference: are two words of a kind -/
section MA
variable {d : Nat} {M L : zM} {Q : Int → zW → Prop} {r o : Nat} {P R : Nat → Nat} {u v : List Int}
theorem getD_ext {a b : List Int} (h : a.length = b.length) (g : ∀ j, j < a.length → a.getD j 0 = b.getD j 0) : a = b := by
  refine List.ext_getElem h (fun j h1 h2 => ?_)
  have := g j h1
  rw [List.getD_eq_getElem?_getD, List.getD_eq_getElem?_getD, List.getElem?_eq_getElem h1, List.getElem?_eq_getElem h2] at this
  exact this
theorem mo_areAlike_loop {a b : List Int} (hr : zkd SH r = 20) (ho : zkd SH o = 20) (ha : aIs M 131 a) (hb : aIs M 132 b) (hab : a.length = b.length) (h28 : a.length ≤ 28) (h : Q (if a = b then 1 else 0) (SH, M, L)) :
    ∀ (n k : Nat), k + n = a.length → (∀ j, j < k → a.getD j 0 = b.getD j 0) → zEx (d + 1) m_mo_areAlike zb0 Q 25 ([zR 112, zR r, zR o, zI (a.length : Int), zI (k : Int)], [], SH, M, L) := by
  intro n
  induction n with
  | zero =>
    intro k hk h1
    have e : a = b := getD_ext hab (fun j hj => h1 j (by omega))
    refine g_mo_areAlike_25 hr ho (zif_f (by omega) ?_)
    rw [if_pos e] at h; exact h
  | succ n ih =>
    intro k hk h1
    refine g_mo_areAlike_25 hr ho (zif_t (by omega) (zck_i ⟨by omega, by omega⟩ (zck_i ⟨by omega, by omega⟩ ?_)))
    rw [Int.toNat_natCast, ha.1 k (by omega), hb.1 k (by omega), zwr_id (by omega) (by omega), show ((k : Int) + 1) = ((k + 1 : Nat) : Int) by omega]
    refine zif_c (fun g => ih (k + 1) (by omega) (fun j hj => ?_)) (fun g => ?_)
    · by_cases q : j = k
      · rw [q]; exact g
      · exact h1 j (by omega)
    · have e : a ≠ b := fun q => g (by rw [q])
      rw [if_neg e] at h; exact h
theorem e_mo_areAlike (hr : zkd SH r = 20) (hr0 : r ≠ 130) (ho : zkd SH o = 20) (ho0 : o ≠ 130) (ho1 : o ≠ 131) (hl : lIs M 112 P R) (hlo : lOk P R) (hu : aIs M r u) (hv : aIs M o v) (hwu : isW u) (hwv : isW v) (hlen : u.length = v.length) (h28 : u.length ≤ 28)
    (h : ∀ M', cFr [130, 131, 132] M M' → Q (if lw P R false u = lw P R false v then 1 else 0) (SH, M', L)) : zEv (d + 4) m_mo_areAlike [zR 112, zR r, zR o, zI (u.length : Int)] (SH, M, L) Q := by
  refine b_mo_areAlike (g_mo_areAlike_0 hr ho ?_)
  refine e_mo_takes (last := false) hr hr0 zk_131 (by decide) (by decide) (by decide) (by rw [zl_131]; omega) hl hlo hu hwu h28 (fun M1 h1 f1 => ?_)
  have f1' : cFr [130, 131, 132] M M1 := f1.up (by simp)
  refine g_mo_areAlike_11 hr ho ?_
  have hl1 : lIs M1 112 P R := cFr.law f1 hl (by simp) (by simp)
  have hv1 : aIs M1 o v := f1.arr hv (by simp; omega)
  rw [show (zI (u.length : Int)) = zI (v.length : Int) by rw [hlen]]
  refine e_mo_takes (last := false) ho ho0 zk_132 (by decide) (by decide) (by decide) (by rw [zl_132]; omega) hl1 hlo hv1 hwv (by omega) (fun M2 h2 f2 => ?_)
  have h1' : aIs M2 131 (lw P R false u) := f2.arr h1 (by simp)
  have f2' : cFr [130, 131, 132] M M2 := f1'.tr (f2.up (by simp))
  refine g_mo_areAlike_22 hr ho ?_
  rw [show (zI (v.length : Int)) = zI ((lw P R false u).length : Int) by rw [lw_len, hlen]]
  exact mo_areAlike_loop (d := d + 3) hr ho h1' h2 (by rw [lw_len, lw_len, hlen]) (by rw [lw_len]; exact h28) (h M2 f2') (lw P R false u).length 0 (by omega) (fun j hj => by omega)
end MA
