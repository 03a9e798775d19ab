/-! contracts of Row: the rest -/
/-- the bits of the letters of u -/
def lbits (u : List Int) : Nat := u.foldl (fun b a => b ||| 2 ^ a.toNat) 0
/-- all are letters -/
def isW (u : List Int) : Prop := ∀ a ∈ u, 0 ≤ a ∧ a < 6
theorem isW_at {u : List Int} (h : isW u) {k : Nat} (hk : k < u.length) : 0 ≤ u.getD k 0 ∧ u.getD k 0 < 6 := by
  refine h _ ?_
  rw [List.getD_eq_getElem?_getD, List.getElem?_eq_getElem hk]
  exact List.getElem_mem hk
theorem lbits_take {u : List Int} {k : Nat} (h : k < u.length) : lbits (u.take (k + 1)) = lbits (u.take k) ||| 2 ^ (u.getD k 0).toNat := by
  unfold lbits
  rw [take_succ_getD h, List.foldl_append]
  rfl
theorem lbits_lt : ∀ (u : List Int) (b : Nat), isW u → b < 64 → u.foldl (fun b a => b ||| 2 ^ a.toNat) b < 64
  | [], b, _, hb => hb
  | a :: u, b, h, hb => by
    refine lbits_lt u _ (fun x hx => h x (List.mem_cons_of_mem _ hx)) ?_
    have h1 := h a List.mem_cons_self
    have h2 : 2 ^ a.toNat < 2 ^ 6 := Nat.pow_lt_pow_right (by omega) (by omega)
    exact Nat.or_lt_two_pow (n := 6) (by omega) h2
/-- the first place at which u is otherwise than v; -9 -/
def fstO : List Int → List Int → Int → Int
  | [], _, _ => -9
  | _ :: _, [], k => k
  | a :: u, b :: v, k => if a = b then fstO u v (k + 1) else k
theorem fstO_same : ∀ (u v : List Int) (k : Int), 0 ≤ k → u.length = v.length → (fstO u v k = -9 ↔ u = v)
  | [], [], k, _, _ => by simp [fstO]
  | [], b :: v, k, _, h => by simp at h
  | a :: u, [], k, _, h => by simp at h
  | a :: u, b :: v, k, hk, h => by
    unfold fstO
    by_cases q : a = b
    · rw [if_pos q, fstO_same u v (k + 1) (by omega) (by simpa using h)]
      simp [q]
    · rw [if_neg q]
      constructor
      · intro g; omega
      · intro g; simp at g; exact absurd g.1 q
theorem rset_in {u : List Int} {i x : Int} (h : 0 ≤ i ∧ i < u.length) : rset u i x = u.set i.toNat x := if_pos h
section RS
variable {d : Nat} {M L : zM} {Q : Int → zW → Prop} {r o : Nat} {u v : List Int}
theorem drop_cons {u v : List Int} {k : Nat} {a : Int} (h : u.drop k = a :: v) : u.getD k 0 = a ∧ u.drop (k + 1) = v ∧ k + v.length + 1 = u.length := by
  have hk : k < u.length := by
    rcases Nat.lt_or_ge k u.length with q | q
    · exact q
    · rw [List.drop_of_length_le q] at h; cases h
  refine ⟨?_, ?_, ?_⟩
  · have := congrArg (fun l => l.getD 0 0) h
    simp only [List.getD_cons_zero] at this
    rw [← this, List.getD_eq_getElem?_getD, List.getD_eq_getElem?_getD, List.getElem?_drop]
    rfl
  · rw [← List.drop_drop, h]; rfl
  · have := congrArg List.length h
    simp at this
    omega
theorem ro_firstOther_loop {res : Int} (hr : zRow r) (ho : zRow o) (hu : rIs M r u) (hv : rIs M o v) (h : Q res (SH, M, L)) :
    ∀ (u' : List Int) (k : Nat), u.drop k = u' → k ≤ u.length → fstO u' (v.drop k) k = res → zEx (d + 2) m_ro_firstOther zb0 Q 2 ([zR r, zR o, zI (k : Int)], [], SH, M, L) := by
  have hc := zRow_cap hr
  have hul := hu.2.2
  intro u'
  induction u' with
  | nil =>
    intro k hd hk hp
    have : u.length ≤ k := by have := congrArg List.length hd; simp at this; omega
    refine g_ro_firstOther_2 hr ho (zif_f (by rw [hu.1]; omega) ?_)
    unfold fstO at hp
    rw [← hp] at h
    exact h
  | cons a u' ih =>
    intro k hd hk hp
    obtain ⟨h1, h2, h3⟩ := drop_cons hd
    refine g_ro_firstOther_2 hr ho (zif_t (by rw [hu.1]; omega) ?_)
    rw [hv.1]
    refine zif_c (fun q => zck_i ⟨by omega, by omega⟩ (e_ro_get ho hv (g_ro_firstOther_29 hr ho ?_))) (fun q => ?_)
    · rw [Int.toNat_natCast, hu.2.1 _ (by omega), h1, rget_in ⟨by omega, q⟩, Int.toNat_natCast, zwr_id (by omega) (by omega)]
      have hvk : k < v.length := by omega
      have hdv : v.drop k = v.getD k 0 :: v.drop (k + 1) := by
        rw [List.drop_eq_getElem_cons hvk, List.getD_eq_getElem?_getD, List.getElem?_eq_getElem hvk]; rfl
      rw [hdv] at hp
      unfold fstO at hp
      refine zif_c (fun g => ?_) (fun g => ?_)
      · rw [if_pos g] at hp
        have := ih (k + 1) h2 (by omega) (by simpa using hp)
        simpa using this
      · rw [if_neg g] at hp
        rw [hp]; exact h
    · rw [List.drop_of_length_le (by omega)] at hp
      unfold fstO at hp
      rw [hp]; exact h
theorem e_ro_firstOther (hr : zRow r) (ho : zRow o) (hu : rIs M r u) (hv : rIs M o v) (h : Q (fstO u v 0) (SH, M, L)) : zEv (d + 2) m_ro_firstOther [zR r, zR o] (SH, M, L) Q :=
  b_ro_firstOther (g_ro_firstOther_0 hr ho (by simpa using ro_firstOther_loop (d := d) hr ho hu hv h u 0 rfl (by omega) rfl))
theorem e_ro_same (hr : zRow r) (ho : zRow o) (hu : rIs M r u) (hv : rIs M o v) (h : Q (if u = v then 1 else 0) (SH, M, L)) : zEv (d + 3) m_ro_same [zR r, zR o] (SH, M, L) Q := by
  refine b_ro_same (g_ro_same_0 hr ho ?_)
  rw [hu.1, hv.1]
  refine zif_c (fun q => e_ro_firstOther hr ho hu hv (g_ro_same_16 hr ho ?_)) (fun q => ?_)
  · have e := fstO_same u v 0 (by omega) (by omega)
    refine zif_c (fun g => ?_) (fun g => ?_)
    · rw [if_pos (e.mp g)] at h; exact h
    · rw [if_neg (fun z => g (e.mpr z))] at h; exact h
  · rw [if_neg (fun z => q (by rw [z]))] at h; exact h
theorem ro_letters_loop (hr : zRow r) (hu : rIs M r u) (hw : isW u) (h : Q (lbits u : Int) (SH, M, L)) :
    ∀ (n k : Nat), k + n = u.length → zEx (d + 1) m_ro_letters zb0 Q 4 ([zR r, zI (lbits (u.take k) : Int), zI (k : Int)], [], SH, M, L) := by
  have hc := zRow_cap hr
  have hul := hu.2.2
  intro n
  induction n with
  | zero =>
    intro k hk
    refine g_ro_letters_4 hr (zif_f (by rw [hu.1]; omega) ?_)
    rw [List.take_of_length_le (by omega)]
    exact h
  | succ n ih =>
    intro k hk
    have hb : lbits (u.take k) < 64 := lbits_lt _ 0 (fun a ha => hw a (List.mem_of_mem_take ha)) (by omega)
    have ha := isW_at hw (show k < u.length by omega)
    refine g_ro_letters_4 hr (zif_t (by rw [hu.1]; omega) (zck_i ⟨by omega, by omega⟩ ?_))
    rw [Int.toNat_natCast, hu.2.1 _ (by omega), zwr_id (by omega) (by omega)]
    have h2 : 2 ^ (u.getD k 0).toNat < 2 ^ 6 := Nat.pow_lt_pow_right (by omega) (by omega)
    have e1 : zshl 1 (u.getD k 0) = ((2 ^ (u.getD k 0).toNat : Nat) : Int) := by
      have := zshl_nat (a := 1) (k := (u.getD k 0).toNat) (by omega) (by omega)
      rw [Int.toNat_of_nonneg ha.1, Nat.one_mul] at this
      exact this
    rw [e1, zor_nat (by omega) (by omega), ← lbits_take (by omega)]
    exact ih (k + 1) (by omega)
theorem e_ro_letters (hr : zRow r) (hu : rIs M r u) (hw : isW u) (h : Q (lbits u : Int) (SH, M, L)) : zEv (d + 1) m_ro_letters [zR r] (SH, M, L) Q :=
  b_ro_letters (g_ro_letters_0 hr (by simpa [lbits] using ro_letters_loop (d := d) hr hu hw h u.length 0 (by omega)))
theorem e_lt_noLetter {a : Int} (h : Q (if 0 ≤ a ∧ a < 6 then 0 else 1) (SH, M, L)) : zEv (d + 1) m_lt_noLetter [zI a] (SH, M, L) Q := by
  refine b_lt_noLetter (g_lt_noLetter_0 (zif_c (fun q => ?_) (fun q => zif_c (fun g => ?_) (fun g => ?_))))
  · rw [if_neg (by omega)] at h; exact h
  · rw [if_pos (by omega)] at h; exact h
  · rw [if_neg (by omega)] at h; exact h
theorem e_ro_swapWithNext {i : Int} (hr : zRow r) (hu : rIs M r u) (h0 : 0 ≤ i) (hi : i + 1 < u.length) (h : ∀ M', rIs M' r ((u.set i.toNat (u.getD (i.toNat + 1) 0)).set (i.toNat + 1) (u.getD i.toNat 0)) → rFr M M' r → Q 0 (SH, M', L)) : zEv (d + 2) m_ro_swapWithNext [zR r, zI i] (SH, M, L) Q := by
  have hc := zRow_cap hr
  have hul := hu.2.2
  refine b_ro_swapWithNext (g_ro_swapWithNext_0 hr (e_ro_get hr hu (g_ro_swapWithNext_5 hr ?_)))
  rw [zwr_id (by omega) (by omega)]
  refine e_ro_get hr hu (g_ro_swapWithNext_15 hr hr (e_ro_set hr hu (fun M1 h1 h2 => g_ro_swapWithNext_18 hr ?_)))
  rw [zwr_id (by omega) (by omega)]
  refine e_ro_set hr h1 (fun M2 h3 h4 => g_ro_swapWithNext_26 hr (h M2 ?_ (h2.tr h4)))
  rw [rget_in (by omega), rget_in (by omega), rset_in (u := u) (by omega), rset_in (by rw [List.length_set]; omega), show (i + 1).toNat = i.toNat + 1 by omega] at h3
  exact h3
end RS
