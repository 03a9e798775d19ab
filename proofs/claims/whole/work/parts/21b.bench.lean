/-! contracts of Bench: the least word -/
/-- nothing but the cells S has changed -/
def cFr (S : List Nat) (M M' : zM) : Prop := ∀ k, k ∉ S → M' k = M k
theorem cFr.rf {S : List Nat} {M : zM} : cFr S M M := fun _ _ => rfl
theorem cFr.tr {S : List Nat} {M M' M'' : zM} (h : cFr S M M') (h' : cFr S M' M'') : cFr S M M'' := fun k hk => (h' k hk).trans (h k hk)
theorem cFr.up {S T : List Nat} {M M' : zM} (h : cFr S M M') (hs : ∀ k ∈ S, k ∈ T) : cFr T M M' := fun k hk => h k (fun q => hk (hs k q))
theorem rFr.c {S : List Nat} {M M' : zM} {r : Nat} (h : rFr M M' r) (h1 : r ∈ S) (h2 : r + 1 ∈ S) : cFr S M M' := fun k hk => h k (fun q => hk (q ▸ h1)) (fun q => hk (q ▸ h2))
theorem lFr.c {S : List Nat} {M M' : zM} {l : Nat} (h : lFr M M' l) (h1 : l + 1 ∈ S) (h2 : l + 2 ∈ S) : cFr S M M' := fun k hk => h k (fun q => hk (q ▸ h1)) (fun q => hk (q ▸ h2))
theorem cFr.row {S : List Nat} {M M' : zM} {r : Nat} {u : List Int} (h : cFr S M M') (hu : rIs M r u) (h1 : r ∉ S) (h2 : r + 1 ∉ S) : rIs M' r u :=
  ⟨by rw [h r h1]; exact hu.1, fun j hj => by rw [h (r + 1) h2]; exact hu.2.1 j hj, hu.2.2⟩
theorem cFr.law {S : List Nat} {M M' : zM} {l : Nat} {P R : Nat → Nat} (h : cFr S M M') (hu : lIs M l P R) (h1 : l + 1 ∉ S) (h2 : l + 2 ∉ S) : lIs M' l P R :=
  fun a ha => by rw [h _ h1, h _ h2]; exact hu a ha
/-- the least (last) word of u by the laws P, R -/
def lw (P R : Nat → Nat) (last : Bool) (u : List Int) : List Int := lwf (psL P) (ltS R last) u
theorem lw_ok (P R : Nat → Nat) (last : Bool) (u : List Int) : isLw (psL P) (fun a b => ltS R last a b = true) (lw P R last u) u := lwf_ok (psL_irr P) (ltS_tr R last) (ltS_to R last) u
theorem lw_len {P R : Nat → Nat} {last : Bool} {u : List Int} : (lw P R last u).length = u.length := isLw_len (lw_ok P R last u)
theorem lw_isW {P R : Nat → Nat} {last : Bool} {u : List Int} (h : isW u) : isW (lw P R last u) := fun a ha => h a ((isLw_mem (lw_ok P R last u) a).mp ha)
theorem lw_one {P R : Nat → Nat} {last : Bool} {u w : List Int} (h : isLw (psL P) (fun a b => ltS R last a b = true) w u) : w = lw P R last u := isLw_one (ltS_as R last) h (lw_ok P R last u)
theorem isW_take {u : List Int} (h : isW u) (k : Nat) : isW (u.take k) := fun a ha => h a (List.mem_of_mem_take ha)
theorem lw_take {P R : Nat → Nat} {last : Bool} {u : List Int} {k : Nat} (h : k < u.length) : lw P R last (u.take (k + 1)) = ins (psL P) (ltS R last) (u.getD k 0) (lw P R last (u.take k)) := by
  unfold lw lwf
  rw [take_succ_getD h, List.foldl_append]
  rfl
theorem zl83 : zln SH 84 = 28 := by decide +kernel
section BF
variable {d : Nat} {M L : zM} {Q : Int → zW → Prop} {r o : Nat} {P R : Nat → Nat} {u : List Int} {last : Bool}
theorem be_arrange_loop (hr : zRow r) (ho : zRow o) (hne : o ≠ 83) (hw : isW u) (hlo : lOk P R) (hcap : (u.length : Int) ≤ zln SH (o + 1)) (h : ∀ M', rIs M' o (lw P R last u) → cFr [83, 84, o, o + 1] M M' → Q 0 (SH, M', L)) :
    ∀ (n k : Nat) (Mk : zM) (v5 : zV), k + n = u.length → rIs Mk 83 u → rIs Mk o (lw P R last (u.take k)) → lIs Mk 1 P R → cFr [83, 84, o, o + 1] M Mk →
      zEx (d + 5) m_be_arrange zb0 Q 15 ([zR 82, zR r, zI (bI last), zR o, zI (k : Int), v5], [], SH, Mk, L) := by
  have hc := zRow_cap ho
  have h83 := zRow_83
  intro n
  induction n with
  | zero =>
    intro k Mk v5 hk h1 h2 h3 h4
    refine g_be_arrange_15 hr ho (e_ro_size h83 h1 (g_be_arrange_24 hr ho (zif_f (by omega) ?_)))
    rw [List.take_of_length_le (by omega)] at h2
    exact h Mk h2 h4
  | succ n ih =>
    intro k Mk v5 hk h1 h2 h3 h4
    have hx := isW_at hw (show k < u.length by omega)
    have hlk : (lw P R last (u.take k)).length = k := by rw [lw_len, List.length_take]; omega
    refine g_be_arrange_15 hr ho (e_ro_size h83 h1 (g_be_arrange_24 hr ho (zif_t (by omega) (e_ro_get h83 h1 ?_))))
    rw [rget_in (by omega), Int.toNat_natCast]
    refine g_be_arrange_36 hr ho (e_be_turn ho h2 (lw_isW (isW_take hw k)) h3 hlo hx (g_be_arrange_47 hr ho ho ?_))
    have hpl := pos_le (ps := psL P) (lt := ltS R last) (x := u.getD k 0) (lw P R last (u.take k))
    refine e_ro_insert ho h2 (by omega) (by omega) (by omega) (fun M' h5 h6 => g_be_arrange_52 hr ho ?_)
    rw [zwr_id (by omega) (by omega), show ((k : Int) + 1) = ((k + 1 : Nat) : Int) by omega]
    refine ih (k + 1) M' _ (by omega) (h6.row ho h83 (Ne.symm hne) h1) ?_ (zRow_law ho zLaw_1 h6 h3) (h4.tr (h6.c (by simp) (by simp)))
    rw [lw_take (by omega), ins_pos]
    rw [Int.toNat_natCast] at h5
    exact h5
theorem e_be_arrange (hr : zRow r) (ho : zRow o) (hr83 : r ≠ 83) (hne : o ≠ 83) (hu : rIs M r u) (hw : isW u) (hl : lIs M 1 P R) (hlo : lOk P R) (h28 : u.length ≤ 28) (hcap : (u.length : Int) ≤ zln SH (o + 1)) (h : ∀ M', rIs M' o (lw P R last u) → cFr [83, 84, o, o + 1] M M' → Q 0 (SH, M', L)) : zEv (d + 5) m_be_arrange [zR 82, zR r, zI (bI last), zR o] (SH, M, L) Q := by
  have h83 := zRow_83
  refine b_be_arrange (g_be_arrange_0 hr ho (e_ro_copy h83 hr (Ne.symm hr83) hu (by rw [zl83]; omega) (fun M1 h1 h2 => g_be_arrange_8 hr ho (e_ro_clear ho (fun M2 h3 h4 => g_be_arrange_12 hr ho ?_)))))
  exact be_arrange_loop hr ho hne hw hlo hcap h u.length 0 M2 zN (by omega) (h4.row ho h83 (Ne.symm hne) h1) h3 (zRow_law ho zLaw_1 h4 (zRow_law h83 zLaw_1 h2 hl)) ((h2.c (by simp) (by simp)).tr (h4.c (by simp) (by simp)))
theorem zRow_85 : zRow 85 := zRow_of (by decide)
theorem zRow_87 : zRow 87 := zRow_of (by decide)
theorem zl85 : zln SH 86 = 28 := by decide +kernel
theorem zl87 : zln SH 88 = 28 := by decide +kernel
/-- the rows of the bench -/
def cB : List Nat := [83, 84, 85, 86, 87, 88]
theorem e_be_sameKind {v : List Int} (hr : zRow r) (ho : zRow o) (hrB : r ∉ cB ∧ r + 1 ∉ cB) (hoB : o ∉ cB ∧ o + 1 ∉ cB) (hu : rIs M r u) (hv : rIs M o v) (hw : isW u) (hwv : isW v) (hl : lIs M 1 P R) (hlo : lOk P R) (h28 : u.length ≤ 28) (h28v : v.length ≤ 28) (h : ∀ M', cFr cB M M' → Q (if lw P R false u = lw P R false v then 1 else 0) (SH, M', L)) : zEv (d + 6) m_be_sameKind [zR 82, zR r, zR o] (SH, M, L) Q := by
  unfold cB at hrB hoB
  simp only [List.mem_cons, List.not_mem_nil, not_or] at hrB hoB
  refine b_be_sameKind (g_be_sameKind_0 hr ho (e_ro_size hr hu (g_be_sameKind_4 hr ho (e_ro_size ho hv (g_be_sameKind_8 hr ho ?_)))))
  refine zif_c (fun q => ?_) (fun q => ?_)
  · refine e_be_arrange (last := false) hr zRow_85 (by omega) (by omega) hu hw hl hlo h28 (by rw [zl85]; omega) (fun M1 h1 h2 => g_be_sameKind_23 hr ho ?_)
    have hv1 := h2.row hv (by simp; omega) (by simp; omega)
    have hl1 := h2.law hl (by decide) (by decide)
    refine e_be_arrange (last := false) ho zRow_87 (by omega) (by omega) hv1 hwv hl1 hlo h28v (by rw [zl87]; omega) (fun M2 h3 h4 => g_be_sameKind_33 hr ho ?_)
    have h5 := h4.row h1 (by decide) (by decide)
    refine e_ro_same zRow_85 zRow_87 h5 h3 (g_be_sameKind_44 hr ho (zbl_i ?_ ?_))
    · split <;> simp
    · exact h M2 ((h2.up (by decide)).tr (h4.up (by decide)))
  · have hne : lw P R false u ≠ lw P R false v := fun g => by have := congrArg List.length g; rw [lw_len, lw_len] at this; omega
    have := h M cFr.rf
    rw [if_neg hne] at this
    exact this
end BF
