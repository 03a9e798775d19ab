/-! words that are alike, by exchanges of neighbours -/
def swq (ps : Int → Int → Bool) (u v : List Int) : Prop := ∃ p a b q, ps a b = true ∧ ps b a = true ∧ u = p ++ a :: b :: q ∧ v = p ++ b :: a :: q
def eqn (ps : Int → Int → Bool) : Nat → List Int → List Int → Prop
  | 0 => fun u v => u = v
  | n + 1 => fun u v => ∃ x, swq ps u x ∧ eqn ps n x v
def eqt (ps : Int → Int → Bool) (u v : List Int) : Prop := ∃ n, eqn ps n u v
section EQ
variable {ps : Int → Int → Bool} {lt : Int → Int → Prop} {u v w x : List Int} {a : Int}
theorem swq.sy (h : swq ps u v) : swq ps v u := by
  obtain ⟨p, a, b, q, h1, h2, h3, h4⟩ := h
  exact ⟨p, b, a, q, h2, h1, h4, h3⟩
theorem swq.co (h : swq ps u v) : swq ps (a :: u) (a :: v) := by
  obtain ⟨p, c, b, q, h1, h2, h3, h4⟩ := h
  exact ⟨a :: p, c, b, q, h1, h2, by rw [h3]; rfl, by rw [h4]; rfl⟩
theorem swq.ap (h : swq ps u v) : swq ps (u ++ w) (v ++ w) := by
  obtain ⟨p, c, b, q, h1, h2, h3, h4⟩ := h
  exact ⟨p, c, b, q ++ w, h1, h2, by rw [h3]; simp, by rw [h4]; simp⟩
theorem eqt.r0 : eqt ps u u := ⟨0, rfl⟩
theorem eqt.s1 (h : swq ps u v) : eqt ps u v := ⟨1, v, h, rfl⟩
theorem eqn_tr {m : Nat} (h2 : eqn ps m v w) : ∀ {n : Nat} {u : List Int}, eqn ps n u v → eqn ps (n + m) u w
  | 0, u, h => by have h : u = v := h; rw [h, Nat.zero_add]; exact h2
  | n + 1, u, ⟨x, hx, h⟩ => by
    rw [show n + 1 + m = n + m + 1 by omega]
    exact ⟨x, hx, eqn_tr h2 h⟩
theorem eqt.tr (h1 : eqt ps u v) (h2 : eqt ps v w) : eqt ps u w := by
  obtain ⟨n, h1⟩ := h1
  obtain ⟨m, h2⟩ := h2
  exact ⟨n + m, eqn_tr h2 h1⟩
theorem eqn_sy : ∀ {n : Nat} {u : List Int}, eqn ps n u v → eqt ps v u
  | 0, u, h => by have h : u = v := h; rw [h]; exact eqt.r0
  | n + 1, u, ⟨x, hx, h⟩ => (eqn_sy h).tr (eqt.s1 hx.sy)
theorem eqt.sy (h : eqt ps u v) : eqt ps v u := by
  obtain ⟨n, h⟩ := h
  exact eqn_sy h
theorem eqn_co : ∀ {n : Nat} {u : List Int}, eqn ps n u v → eqn ps n (a :: u) (a :: v)
  | 0, u, h => by have h : u = v := h; rw [h]; rfl
  | n + 1, u, ⟨x, hx, h⟩ => ⟨a :: x, hx.co, eqn_co h⟩
theorem eqt.co (h : eqt ps u v) : eqt ps (a :: u) (a :: v) := by
  obtain ⟨n, h⟩ := h
  exact ⟨n, eqn_co h⟩
theorem eqn_ap : ∀ {n : Nat} {u : List Int}, eqn ps n u v → eqn ps n (u ++ w) (v ++ w)
  | 0, u, h => by have h : u = v := h; rw [h]; rfl
  | n + 1, u, ⟨x, hx, h⟩ => ⟨x ++ w, hx.ap, eqn_ap h⟩
theorem eqt.ap (h : eqt ps u v) : eqt ps (u ++ w) (v ++ w) := by
  obtain ⟨n, h⟩ := h
  exact ⟨n, eqn_ap h⟩
/-- what passes all ahead of it comes first -/
theorem eqt_front : ∀ {p : List Int}, (∀ b ∈ p, ps a b = true ∧ ps b a = true) → eqt ps (p ++ a :: w) (a :: (p ++ w))
  | [], _ => eqt.r0
  | b :: p, h => by
    have h1 := eqt_front (p := p) (fun c hc => h c (List.mem_cons_of_mem _ hc))
    have h2 := h b (List.mem_cons_self ..)
    refine (h1.co (a := b)).tr (eqt.s1 ⟨[], b, a, p ++ w, h2.2, h2.1, rfl, rfl⟩)
theorem tk_split : ∀ {u v : List Int}, tk ps a u = some v → ∃ p q, u = p ++ a :: q ∧ v = p ++ q ∧ ∀ b ∈ p, ps a b = true
  | [], v, h => by simp [tk] at h
  | b :: u, v, h => by
    unfold tk at h
    by_cases e : b = a
    · rw [if_pos e] at h
      cases h
      exact ⟨[], u, by rw [e]; rfl, rfl, fun c hc => by simp at hc⟩
    · rw [if_neg e] at h
      by_cases g : ps a b = true
      · rw [if_pos g] at h
        cases k : tk ps a u with
        | none => rw [k] at h; cases h
        | some y =>
          rw [k] at h
          cases h
          obtain ⟨p, q, h1, h2, h3⟩ := tk_split k
          refine ⟨b :: p, q, by rw [h1]; rfl, by rw [h2]; rfl, fun c hc => ?_⟩
          rcases List.mem_cons.mp hc with z | z
          · rw [z]; exact g
          · exact h3 c z
      · rw [if_neg g] at h; cases h
theorem tk_join (hx : ∀ x, ps x x = false) : ∀ {p q : List Int}, (∀ b ∈ p, ps a b = true) → tk ps a (p ++ a :: q) = some (p ++ q)
  | [], q, _ => by simp [tk]
  | b :: p, q, h => by
    have h1 := h b (List.mem_cons_self ..)
    have h2 := tk_join hx (p := p) (q := q) (fun c hc => h c (List.mem_cons_of_mem _ hc))
    have e : ¬ b = a := fun z => by rw [z, hx] at h1; cases h1
    show (if b = a then _ else if ps a b = true then (tk ps a (p ++ a :: q)).map (fun v => b :: v) else _) = _
    rw [if_neg e, if_pos h1, h2]
    rfl
theorem tk_cons {b : Int} : tk ps a (b :: u) = if b = a then some u else if ps a b then (tk ps a u).map (fun v => b :: v) else none := rfl
theorem swq_tk (hx : ∀ x, ps x x = false) {c : Int} : ∀ {p q : List Int} {a b : Int} {u' : List Int}, ps a b = true → ps b a = true → tk ps c (p ++ a :: b :: q) = some u' → ∃ v', tk ps c (p ++ b :: a :: q) = some v' ∧ eqt ps u' v'
  | [], q, a, b, u', h1, h2, h => by
    have hab : a ≠ b := fun z => by rw [z, hx] at h1; cases h1
    rw [List.nil_append, tk_cons, tk_cons] at h
    rw [List.nil_append, tk_cons, tk_cons]
    by_cases e1 : a = c
    · subst e1
      rw [if_pos rfl] at h
      cases h
      refine ⟨b :: q, ?_, eqt.r0⟩
      rw [if_neg (Ne.symm hab), if_pos h1, if_pos rfl]; rfl
    · rw [if_neg e1] at h
      by_cases e2 : b = c
      · subst e2
        rw [if_pos h2, if_pos rfl] at h
        cases h
        exact ⟨a :: q, by rw [if_pos rfl], eqt.r0⟩
      · rw [if_neg e2] at h
        rw [if_neg e2, if_neg e1]
        by_cases g1 : ps c a = true
        · rw [if_pos g1] at h
          by_cases g2 : ps c b = true
          · rw [if_pos g2] at h
            rw [if_pos g2, if_pos g1]
            cases k : tk ps c q with
            | none => rw [k] at h; cases h
            | some y =>
              rw [k] at h
              cases h
              exact ⟨b :: a :: y, rfl, eqt.s1 ⟨[], a, b, y, h1, h2, rfl, rfl⟩⟩
          · rw [if_neg g2] at h; cases h
        · rw [if_neg g1] at h; cases h
  | d :: p, q, a, b, u', h1, h2, h => by
    rw [List.cons_append, tk_cons] at h
    rw [List.cons_append, tk_cons]
    by_cases e : d = c
    · rw [if_pos e] at h ⊢
      cases h
      exact ⟨_, rfl, eqt.s1 ⟨p, a, b, q, h1, h2, rfl, rfl⟩⟩
    · rw [if_neg e] at h ⊢
      by_cases g : ps c d = true
      · rw [if_pos g] at h ⊢
        cases k : tk ps c (p ++ a :: b :: q) with
        | none => rw [k] at h; cases h
        | some y =>
          rw [k] at h
          cases h
          obtain ⟨v', k1, k2⟩ := swq_tk hx h1 h2 k
          rw [k1]
          exact ⟨d :: v', rfl, k2.co⟩
      · rw [if_neg g] at h; cases h
theorem eqn_tk (hx : ∀ x, ps x x = false) : ∀ {n : Nat} {u u' : List Int}, eqn ps n u v → tk ps a u = some u' → ∃ v', tk ps a v = some v' ∧ eqt ps u' v'
  | 0, u, u', h, k => by
    have h : u = v := h
    subst h
    exact ⟨u', k, eqt.r0⟩
  | n + 1, u, u', ⟨x, ⟨p, c, b, q, h1, h2, h3, h4⟩, h⟩, k => by
    subst h3
    obtain ⟨x', k1, k2⟩ := swq_tk hx h1 h2 k
    rw [← h4] at k1
    obtain ⟨v', k3, k4⟩ := eqn_tk hx h k1
    exact ⟨v', k3, k2.tr k4⟩
theorem eqt.tk (hx : ∀ x, ps x x = false) {u' : List Int} (h : eqt ps u v) (k : tk ps a u = some u') : ∃ v', tk ps a v = some v' ∧ eqt ps u' v' := by
  obtain ⟨n, h⟩ := h
  exact eqn_tk hx h k
theorem eqt.len (h : eqt ps u v) : u.length = v.length := by
  obtain ⟨n, h⟩ := h
  induction n generalizing u with
  | zero => have h : u = v := h; rw [h]
  | succ n ih =>
    obtain ⟨x, ⟨p, a, b, q, _, _, h3, h4⟩, h⟩ := h
    rw [← ih h, h3, h4]
    simp
/-- alike words have one least word -/
theorem isLw_eqt (hx : ∀ x, ps x x = false) : ∀ {w u v : List Int}, eqt ps u v → isLw ps lt w u → isLw ps lt w v
  | [], u, v, h, k => by
    have k : u = [] := k
    have := h.len
    rw [k] at this
    exact List.eq_nil_of_length_eq_zero this.symm
  | a :: w, u, v, h, ⟨u', k1, k2, k3⟩ => by
    obtain ⟨v', h1, h2⟩ := h.tk hx k1
    refine ⟨v', h1, fun b v'' hb hne => ?_, isLw_eqt hx h2 k3⟩
    obtain ⟨u'', h3, _⟩ := h.sy.tk hx hb
    exact k2 b u'' h3 hne
/-- a word is alike to its least word -/
theorem eqt_isLw {I : List Int → Prop} (hs : ∀ u, I u → ∀ a ∈ u, ∀ b ∈ u, ps a b = true → ps b a = true) (hI : ∀ u v a, I u → tk ps a u = some v → I v) : ∀ {w u : List Int}, I u → isLw ps lt w u → eqt ps u w
  | [], u, _, k => by
    have k : u = [] := k
    rw [k]; exact eqt.r0
  | a :: w, u, hu, ⟨u', k1, k2, k3⟩ => by
    have ih := eqt_isLw hs hI (hI _ _ _ hu k1) k3
    obtain ⟨p, q, h1, h2, h3⟩ := tk_split k1
    have hf := eqt_front (ps := ps) (a := a) (p := p) (w := q) (fun b hb => ⟨h3 b hb, hs u hu a (by rw [h1]; simp) b (by rw [h1]; simp [hb]) (h3 b hb)⟩)
    rw [← h1, ← h2] at hf
    exact hf.tr ih.co
end EQ
section EL
variable {P R : Nat → Nat} {u v : List Int} {last : Bool}
theorem isW_tk {a : Int} (hw : isW u) (h : tk (psL P) a u = some v) : isW v := fun b hb => hw b ((tk_mem h b).mpr (Or.inr hb))
theorem lw_eqt (h : eqt (psL P) u v) : lw P R last u = lw P R last v := lw_one (isLw_eqt (psL_irr P) h (lw_ok P R last u))
theorem eqt_lw (ho : lOk P R) (hw : isW u) : eqt (psL P) u (lw P R last u) := by
  refine eqt_isLw (I := isW) (fun u hu a ha b hb h => ?_) (fun u v a hu h => isW_tk hu h) hw (lw_ok P R last u)
  rw [psL_sym ho (hu b hb) (hu a ha)]
  exact h
end EL
