/-! contracts of Bench: arranging -/
def ltS (R : Nat → Nat) (last : Bool) (a b : Int) : Bool := if last then ltL R b a else ltL R a b
theorem ltS_tr (R : Nat → Nat) (last : Bool) (a b c : Int) (h1 : ltS R last a b = true) (h2 : ltS R last b c = true) : ltS R last a c = true := by
  cases last
  · exact ltL_tr R a b c h1 h2
  · exact ltL_tr R c b a h2 h1
theorem ltS_to (R : Nat → Nat) (last : Bool) (a b : Int) (h : a ≠ b) : ltS R last a b = true ∨ ltS R last b a = true := by
  cases last
  · exact ltL_to R a b h
  · exact ltL_to R b a (Ne.symm h)
theorem ltS_as (R : Nat → Nat) (last : Bool) (a b : Int) (h : ltS R last a b = true) : ¬ ltS R last b a = true := by
  cases last
  · exact ltL_as R a b h
  · exact ltL_as R b a h
/-- the place at which x is put in -/
def pos (ps lt : Int → Int → Bool) (x : Int) : List Int → Nat
  | [] => 0
  | a :: w => if (a :: w).all (ps x) && lt x a then 0 else 1 + pos ps lt x w
theorem pos_cons {ps lt : Int → Int → Bool} {x a : Int} {w : List Int} : pos ps lt x (a :: w) = if (a :: w).all (ps x) && lt x a then 0 else 1 + pos ps lt x w := rfl
theorem ins_cons {ps lt : Int → Int → Bool} {x a : Int} {w : List Int} : ins ps lt x (a :: w) = if (a :: w).all (ps x) && lt x a then x :: a :: w else a :: ins ps lt x w := rfl
theorem ins_pos {ps lt : Int → Int → Bool} {x : Int} : ∀ (w : List Int), ins ps lt x w = w.take (pos ps lt x w) ++ x :: w.drop (pos ps lt x w)
  | [] => rfl
  | a :: w => by
    rw [ins_cons, pos_cons]
    split
    · rfl
    · rw [ins_pos w, Nat.add_comm 1]; rfl
theorem pos_le {ps lt : Int → Int → Bool} {x : Int} : ∀ (w : List Int), pos ps lt x w ≤ w.length
  | [] => by simp [pos]
  | a :: w => by
    have := pos_le (ps := ps) (lt := lt) (x := x) w
    unfold pos
    split
    · omega
    · rw [List.length_cons]; omega
theorem pos_stop {ps lt : Int → Int → Bool} {x a : Int} {w : List Int} (h : ps x a = false) : ∀ (f : List Int), pos ps lt x (f ++ a :: w) = f.length + 1 + pos ps lt x w
  | [] => by
    rw [List.nil_append, pos_cons]
    simp [h]
  | b :: f => by
    rw [List.cons_append, pos_cons]
    have hall : (b :: (f ++ a :: w)).all (ps x) = false := by simp [h]
    rw [hall, pos_stop h f]
    simp
    omega
theorem zRow_law {r l : Nat} {M M' : zM} {P R : Nat → Nat} (hr : zRow r) (hl : zLaw l) (h : rFr M M' r) (hu : lIs M l P R) : lIs M' l P R := by
  have e1 : l + 1 ≠ r := fun q => by have := hr.1; rw [← q, hl.2.2.1] at this; omega
  have e2 : l + 2 ≠ r := fun q => by have := hr.1; rw [← q, hl.2.2.2.2.1] at this; omega
  have e3 : l ≠ r := fun q => by have := hr.1; rw [← q, hl.1] at this; omega
  intro a ha
  rw [h (l + 1) e1 (by omega), h (l + 2) e2 (by omega)]
  exact hu a ha
theorem zRow_83 : zRow 83 := zRow_of (by decide)
theorem zLaw_1 : zLaw 1 := zLaw_of (by decide)
section BE
variable {d : Nat} {M L : zM} {Q : Int → zW → Prop} {r o : Nat} {P R : Nat → Nat} {x : Int} {w u : List Int} {last : Bool}
def bI (b : Bool) : Int := if b then 1 else 0
theorem ltS_rank (ho : lOk P R) {a : Int} (hx : 0 ≤ x ∧ x < 6) (ha : 0 ≤ a ∧ a < 6) (hne : x ≠ a) : ltS R last x a = if R a.toNat < R x.toNat then last else !last := by
  have hR : R x.toNat ≠ R a.toNat := fun q => by have := ho.2.2.2.2 _ _ (by omega) (by omega) q; omega
  unfold ltS ltL
  cases last
  · simp only [Bool.false_eq_true, if_false]
    by_cases q : R a.toNat < R x.toNat
    · rw [if_pos q]; exact decide_eq_false (by omega)
    · rw [if_neg q]; exact decide_eq_true (by omega)
  · simp only [if_true]
    by_cases q : R a.toNat < R x.toNat
    · rw [if_pos q]; exact decide_eq_true (by omega)
    · rw [if_neg q]; exact decide_eq_false (by omega)
theorem be_turn_loop (hr : zRow r) (hw : rIs M r w) (hW : isW w) (hl : lIs M 1 P R) (ho : lOk P R) (hx : 0 ≤ x ∧ x < 6) (h : Q (pos (psL P) (ltS R last) x w : Int) (SH, M, L)) :
    ∀ (k : Nat) (v6 : zV), k ≤ w.length → (∀ a ∈ w.drop k, psL P x a = true) →
      zEx (d + 4) m_be_turnToBeTaken zb0 Q 14 ([zR 82, zR r, zI x, zI (bI last), zI ((k + pos (psL P) (ltS R last) x (w.drop k) : Nat) : Int), zI ((k : Int) - 1), v6], [], SH, M, L) := by
  have hc := zRow_cap hr
  have hwl := hw.2.2
  intro k
  induction k with
  | zero =>
    intro v6 hk hall
    refine g_be_turnToBeTaken_14 hr (zif_t (by omega) ?_)
    simpa using h
  | succ k ih =>
    intro v6 hk hall
    have hd : w.drop k = w.getD k 0 :: w.drop (k + 1) := by
      rw [List.drop_eq_getElem_cons (by omega), List.getD_eq_getElem?_getD, List.getElem?_eq_getElem (by omega)]; rfl
    have ha := isW_at hW (show k < w.length by omega)
    generalize w.getD k 0 = a at hd ha ⊢
    have hget : rget w (((k + 1 : Nat) : Int) - 1) = a := by
      rw [rget_in (by omega), show (((k + 1 : Nat) : Int) - 1).toNat = k by omega]
      exact (drop_cons hd).1
    refine g_be_turnToBeTaken_14 hr (zif_f (by omega) (e_ro_get hr hw ?_))
    rw [hget]
    refine g_be_turnToBeTaken_30 hr (e_la_letPass zLaw_1 hl ho hx ha (g_be_turnToBeTaken_33 hr ?_))
    by_cases hp : psL P x a = true
    · rw [if_pos hp]
      have hne : x ≠ a := fun q => by rw [q, psL_irr] at hp; cases hp
      refine zif_f (by decide) (e_la_rankOf zLaw_1 hl hx (g_be_turnToBeTaken_44 hr (e_ro_get hr hw ?_)))
      rw [hget]
      refine g_be_turnToBeTaken_54 hr (e_la_rankOf zLaw_1 hl ha (g_be_turnToBeTaken_57 hr ?_))
      have hall2 : ∀ b ∈ w.drop k, psL P x b = true := fun b hb => by
        rw [hd] at hb
        rcases List.mem_cons.mp hb with rfl | hb
        · exact hp
        · exact hall b hb
      have hpos : pos (psL P) (ltS R last) x (w.drop k) = if ltS R last x a = true then 0 else 1 + pos (psL P) (ltS R last) x (w.drop (k + 1)) := by
        have hal : (w.drop k).all (psL P x) = true := List.all_eq_true.mpr hall2
        rw [hd] at hal ⊢
        rw [pos_cons, hal, Bool.true_and]
      rw [ltS_rank ho hx ha hne] at hpos
      have e1 : zwr (((k + 1 : Nat) : Int) - 1 + -1) = (k : Int) - 1 := by rw [zwr_id (by omega) (by omega)]; omega
      rw [e1, show ((k + 1 : Nat) : Int) - 1 = (k : Int) by omega]
      refine zif_c (fun q => zif_c (fun q2 => ?_) (fun q2 => ?_)) (fun q => zif_c (fun q2 => ?_) (fun q2 => ?_))
      · have hb : last = true := by cases last; simp [bI] at q2; rfl
        rw [if_pos (show R a.toNat < R x.toNat by omega), if_pos hb] at hpos
        have := ih (zI 1) (by omega) hall2
        rw [hpos] at this
        exact this
      · have hb : ¬ last = true := by cases last; simp; simp [bI] at q2
        rw [if_pos (show R a.toNat < R x.toNat by omega), if_neg hb] at hpos
        have := ih (zI 1) (by omega) hall2
        rw [hpos] at this
        rw [show k + 1 + pos (psL P) (ltS R last) x (w.drop (k + 1)) = k + (1 + pos (psL P) (ltS R last) x (w.drop (k + 1))) by omega]
        exact this
      · have hb : (!last) = true := by cases last; rfl; simp [bI] at q2
        rw [if_neg (show ¬ R a.toNat < R x.toNat by omega), if_pos hb] at hpos
        have := ih (zI 0) (by omega) hall2
        rw [hpos] at this
        exact this
      · have hb : ¬ (!last) = true := by cases last; simp [bI] at q2; simp
        rw [if_neg (show ¬ R a.toNat < R x.toNat by omega), if_neg hb] at hpos
        have := ih (zI 0) (by omega) hall2
        rw [hpos] at this
        rw [show k + 1 + pos (psL P) (ltS R last) x (w.drop (k + 1)) = k + (1 + pos (psL P) (ltS R last) x (w.drop (k + 1))) by omega]
        exact this
    · rw [if_neg hp]
      refine zif_t rfl ?_
      have hp : psL P x a = false := by simpa using hp
      have e := pos_stop (lt := ltS R last) (w := w.drop (k + 1)) hp (w.take k)
      rw [← hd, List.take_append_drop, List.length_take, show min k w.length = k by omega] at e
      rw [e] at h
      exact h
theorem e_be_turn (hr : zRow r) (hw : rIs M r w) (hW : isW w) (hl : lIs M 1 P R) (ho : lOk P R) (hx : 0 ≤ x ∧ x < 6) (h : Q (pos (psL P) (ltS R last) x w : Int) (SH, M, L)) : zEv (d + 4) m_be_turnToBeTaken [zR 82, zR r, zI x, zI (bI last)] (SH, M, L) Q := by
  have hc := zRow_cap hr
  have hwl := hw.2.2
  refine b_be_turnToBeTaken (g_be_turnToBeTaken_0 hr (e_ro_size hr hw (g_be_turnToBeTaken_4 hr (e_ro_size hr hw (g_be_turnToBeTaken_10 hr ?_)))))
  rw [zwr_id (by omega) (by omega)]
  have := be_turn_loop (d := d) hr hw hW hl ho hx h w.length zN (by omega) (by simp)
  simpa [pos] using this
end BE
