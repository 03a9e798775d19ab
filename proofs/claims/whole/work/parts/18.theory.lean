/-! words of letters some of which may pass -/
/-- a taken away, if it can be taken first -/
def tk (ps : Int → Int → Bool) (a : Int) : List Int → Option (List Int)
  | [] => none
  | b :: u => if b = a then some u else if ps a b then (tk ps a u).map (fun v => b :: v) else none
/-- w is the least word of u, by the order lt -/
def isLw (ps : Int → Int → Bool) (lt : Int → Int → Prop) : List Int → List Int → Prop
  | [], u => u = []
  | a :: w, u => ∃ u', tk ps a u = some u' ∧ (∀ b u'', tk ps b u = some u'' → b ≠ a → lt a b) ∧ isLw ps lt w u'
theorem tk_len {ps : Int → Int → Bool} {a : Int} : ∀ {u v : List Int}, tk ps a u = some v → u.length = v.length + 1
  | [], v, h => by simp [tk] at h
  | b :: u, v, h => by
    unfold tk at h
    split at h
    · cases h; rfl
    · split at h
      · cases hu : tk ps a u with
        | none => rw [hu] at h; cases h
        | some u' =>
          rw [hu] at h
          cases h
          simp [tk_len hu]
      · cases h
theorem tk_mem {ps : Int → Int → Bool} {a : Int} : ∀ {u v : List Int}, tk ps a u = some v → ∀ y, y ∈ u ↔ y = a ∨ y ∈ v
  | [], v, h, y => by simp [tk] at h
  | b :: u, v, h, y => by
    unfold tk at h
    split at h
    · next hb => cases h; subst hb; simp
    · split at h
      · cases hu : tk ps a u with
        | none => rw [hu] at h; cases h
        | some u' =>
          rw [hu] at h
          cases h
          have := tk_mem hu y
          simp only [List.mem_cons, this]
          constructor
          · rintro (h | h | h) <;> simp [h]
          · rintro (h | h | h) <;> simp [h]
      · cases h
theorem tk_perm {ps : Int → Int → Bool} {a : Int} : ∀ {u v : List Int}, tk ps a u = some v → u.Perm (a :: v)
  | [], v, h => by simp [tk] at h
  | b :: u, v, h => by
    unfold tk at h
    split at h
    · next hb => cases h; subst hb; exact List.Perm.refl _
    · split at h
      · cases hu : tk ps a u with
        | none => rw [hu] at h; cases h
        | some u' =>
          rw [hu] at h
          cases h
          exact (List.Perm.cons b (tk_perm hu)).trans (List.Perm.swap a b u')
      · cases h
theorem tk_app {ps : Int → Int → Bool} {a : Int} {v : List Int} : ∀ {u u' : List Int}, tk ps a u = some u' → tk ps a (u ++ v) = some (u' ++ v)
  | [], u', h => by simp [tk] at h
  | b :: u, u', h => by
    rw [List.cons_append]
    unfold tk at h ⊢
    by_cases hb : b = a
    · rw [if_pos hb] at h ⊢; cases h; rfl
    · rw [if_neg hb] at h ⊢
      by_cases hp : ps a b = true
      · rw [if_pos hp] at h ⊢
        cases hu : tk ps a u with
        | none => rw [hu] at h; cases h
        | some u'' =>
          rw [hu] at h
          cases h
          rw [tk_app hu]
          rfl
      · rw [if_neg hp] at h; cases h
/-- a letter of which no one ahead is it, and that passes all, is taken at the end -/
theorem tk_end {ps : Int → Int → Bool} {x : Int} (hx : ps x x = false) : ∀ {u : List Int}, (∀ y ∈ u, ps x y = true) → tk ps x (u ++ [x]) = some u
  | [], _ => by simp [tk]
  | b :: u, h => by
    have hb : b ≠ x := fun q => by
      have := h b List.mem_cons_self
      rw [q, hx] at this
      cases this
    rw [List.cons_append]
    unfold tk
    rw [if_neg hb, if_pos (h b List.mem_cons_self), tk_end hx (fun y hy => h y (List.mem_cons_of_mem _ hy))]
    rfl
/-- what is taken out of u ++ [x] is taken out of u, or is x, which passes all of u -/
theorem tk_app1 {ps : Int → Int → Bool} {b x : Int} : ∀ {u v : List Int}, tk ps b (u ++ [x]) = some v → (∃ u', tk ps b u = some u') ∨ b = x ∧ ∀ y ∈ u, ps x y = true
  | [], v, h => by
    right
    simp only [List.nil_append] at h
    unfold tk at h
    split at h
    · next hb => exact ⟨hb.symm, by simp⟩
    · split at h
      · simp [tk] at h
      · cases h
  | c :: u, v, h => by
    rw [List.cons_append] at h
    unfold tk at h
    by_cases hb : c = b
    · left; unfold tk; rw [if_pos hb]; exact ⟨_, rfl⟩
    · rw [if_neg hb] at h
      by_cases hp : ps b c = true
      · rw [if_pos hp] at h
        cases hu : tk ps b (u ++ [x]) with
        | none => rw [hu] at h; cases h
        | some v' =>
          rcases tk_app1 hu with ⟨u', h1⟩ | ⟨h1, h2⟩
          · left; unfold tk; rw [if_neg hb, if_pos hp, h1]; exact ⟨_, rfl⟩
          · right
            refine ⟨h1, fun y hy => ?_⟩
            rcases List.mem_cons.mp hy with rfl | hy
            · rw [← h1]; exact hp
            · exact h2 y hy
      · rw [if_neg hp] at h; cases h
theorem isLw_mem {ps : Int → Int → Bool} {lt : Int → Int → Prop} : ∀ {w u : List Int}, isLw ps lt w u → ∀ y, y ∈ w ↔ y ∈ u
  | [], u, h, y => by have h : u = [] := h; subst h; rfl
  | a :: w, u, ⟨u', h1, _, h3⟩, y => by rw [tk_mem h1, List.mem_cons, isLw_mem h3]
theorem isLw_perm {ps : Int → Int → Bool} {lt : Int → Int → Prop} : ∀ {w u : List Int}, isLw ps lt w u → u.Perm w
  | [], u, h => by have h : u = [] := h; subst h; exact List.Perm.refl _
  | a :: w, u, ⟨u', h1, _, h3⟩ => (tk_perm h1).trans (List.Perm.cons a (isLw_perm h3))
theorem isLw_len {ps : Int → Int → Bool} {lt : Int → Int → Prop} {w u : List Int} (h : isLw ps lt w u) : w.length = u.length := (isLw_perm h).length_eq.symm
/-- there is but one -/
theorem isLw_one {ps : Int → Int → Bool} {lt : Int → Int → Prop} (has : ∀ a b, lt a b → ¬ lt b a) : ∀ {w w' u : List Int}, isLw ps lt w u → isLw ps lt w' u → w = w'
  | [], [], u, _, _ => rfl
  | [], a :: w', u, h, h' => by have h1 := isLw_len h; have h2 := isLw_len h'; simp at h1 h2; omega
  | a :: w, [], u, h, h' => by have h1 := isLw_len h; have h2 := isLw_len h'; simp at h1 h2; omega
  | a :: w, b :: w', u, ⟨u1, h1, h2, h3⟩, ⟨u2, k1, k2, k3⟩ => by
    have hab : a = b := by
      by_cases q : a = b
      · exact q
      · exact absurd (k2 a u1 h1 q) (has _ _ (h2 b u2 k1 (Ne.symm q)))
    subst hab
    cases h1.symm.trans k1
    rw [isLw_one has h3 k3]
/-- x put in at its turn to be taken -/
def ins (ps : Int → Int → Bool) (lt : Int → Int → Bool) (x : Int) : List Int → List Int
  | [] => [x]
  | a :: w => if (a :: w).all (ps x) && lt x a then x :: a :: w else a :: ins ps lt x w
theorem ins_ok {ps lt : Int → Int → Bool} (hx : ∀ x, ps x x = false) (htr : ∀ a b c, lt a b = true → lt b c = true → lt a c = true) (hto : ∀ a b, a ≠ b → lt a b = true ∨ lt b a = true) {x : Int} : ∀ {w u : List Int}, isLw ps (fun a b => lt a b = true) w u → isLw ps (fun a b => lt a b = true) (ins ps lt x w) (u ++ [x])
  | [], u, h => by
    have h : u = [] := h
    subst h
    refine ⟨[], by simp [tk], fun b u'' hb hne => ?_, rfl⟩
    simp only [List.nil_append] at hb
    unfold tk at hb
    rw [if_neg (Ne.symm hne)] at hb
    split at hb
    · simp [tk] at hb
    · cases hb
  | a :: w, u, h => by
    obtain ⟨u', h1, h2, h3⟩ := id h
    unfold ins
    by_cases hA : ((a :: w).all (ps x) && lt x a) = true
    · rw [if_pos hA]
      rw [Bool.and_eq_true, List.all_eq_true] at hA
      have hall : ∀ y ∈ u, ps x y = true := fun y hy => hA.1 y ((isLw_mem h y).mpr hy)
      refine ⟨u, tk_end (hx x) hall, fun b u'' hb hne => ?_, h⟩
      rcases tk_app1 hb with ⟨v, hv⟩ | ⟨hbx, _⟩
      · by_cases hba : b = a
        · subst hba; exact hA.2
        · exact htr _ _ _ hA.2 (h2 b v hv hba)
      · exact absurd hbx hne
    · rw [if_neg hA]
      refine ⟨u' ++ [x], tk_app h1, fun b u'' hb hne => ?_, ins_ok hx htr hto h3⟩
      rcases tk_app1 hb with ⟨v, hv⟩ | ⟨hbx, hall⟩
      · exact h2 b v hv hne
      · subst hbx
        rcases hto a b (Ne.symm hne) with q | q
        · exact q
        · exfalso
          apply hA
          rw [Bool.and_eq_true, List.all_eq_true]
          exact ⟨fun y hy => hall y ((isLw_mem h y).mp hy), q⟩
/-- the least word, put together -/
def lwf (ps lt : Int → Int → Bool) (u : List Int) : List Int := u.foldl (fun w x => ins ps lt x w) []
theorem lwf_ok {ps lt : Int → Int → Bool} (hx : ∀ x, ps x x = false) (htr : ∀ a b c, lt a b = true → lt b c = true → lt a c = true) (hto : ∀ a b, a ≠ b → lt a b = true ∨ lt b a = true) (u : List Int) : isLw ps (fun a b => lt a b = true) (lwf ps lt u) u := by
  have : ∀ (v w p : List Int), isLw ps (fun a b => lt a b = true) w p → isLw ps (fun a b => lt a b = true) (v.foldl (fun w x => ins ps lt x w) w) (p ++ v) := by
    intro v
    induction v with
    | nil => intro w p h; rw [List.append_nil]; exact h
    | cons x v ih =>
      intro w p h
      have := ih _ _ (ins_ok hx htr hto (x := x) h)
      rw [List.append_assoc] at this
      exact this
  exact this u [] [] rfl
