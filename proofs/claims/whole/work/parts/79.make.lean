/-! what the constructors make: a new Row, new Laws, behind what there is -/
section MN
variable {d : Nat} {M L : zM} {Q : Int → zW → Prop} {σ τ : zSh} {r j q : Nat} {x : Int}
theorem zsr_new {e : Nat × Nat × List (Option Nat)} : zsr (σ ++ e :: τ) σ.length j q = σ ++ (e.1, e.2.1, e.2.2.set j (some q)) :: τ := by
  unfold zsr
  have h : (σ ++ e :: τ)[σ.length]? = some e := by
    rw [List.getElem?_append_right (Nat.le_refl _), Nat.sub_self]; rfl
  rw [h]
  dsimp only
  rw [List.set_append_right _ _ (Nat.le_refl _), Nat.sub_self]
  rfl
theorem zsr_old (h : r < σ.length) : zsr (σ ++ τ) r j q = zsr σ r j q ++ τ := by
  unfold zsr
  rw [List.getElem?_append_left h]
  cases k : σ[r]? with
  | none => rfl
  | some e =>
    dsimp only
    rw [List.set_append_left _ _ h]
theorem new_kd {e : Nat × Nat × List (Option Nat)} : zkd (σ ++ [e]) σ.length = e.1 := by
  unfold zkd
  rw [List.getElem?_append_right (Nat.le_refl _), Nat.sub_self]; rfl
/-- a new Row -/
theorem nR (hx : 0 ≤ x ∧ x ≤ 20000) (h : ∀ M' L' : zM, (∀ i, M' (σ.length + 1) i = 0) → M' σ.length 1 = 0 → (∀ k, k < σ.length → M' k = M k ∧ L' k = L k) → Q 0 (σ ++ [(5, 0, [some (σ.length + 1), none]), (20, x.toNat, [])], M', L')) : zEv (d + 1) m_ro_init [zR σ.length, zI x] (σ ++ [(5, 0, [none, none])], M, L) Q := by
  have e : (σ ++ [(5, 0, [none, none])]).length = σ.length + 1 := by rw [List.length_append]; rfl
  refine n_ro_init new_kd hx ?_
  rw [List.append_assoc, e, List.singleton_append, zsr_new]
  refine h _ _ (fun i => ?_) ?_ (fun k hk => ⟨?_, ?_⟩)
  · unfold zmz; rw [if_pos rfl]
  · unfold zmz; rw [if_neg (by omega), zmu_s]
  · funext i; unfold zmz; rw [if_neg (by omega), zmu_k (by omega)]
  · funext i; unfold zmz; rw [if_neg (by omega)]
/-- new Laws -/
theorem nL (h : ∀ M' L' : zM, (∀ a : Nat, a < 6 → M' (σ.length + 1) a = 0 ∧ M' (σ.length + 2) a = (a : Int)) → (∀ k, k < σ.length → M' k = M k ∧ L' k = L k) → Q 0 (σ ++ [(2, 0, [some (σ.length + 1), some (σ.length + 2)]), (20, 6, []), (20, 6, [])], M', L')) : zEv (d + 1) m_la_init [zR σ.length] (σ ++ [(2, 0, [none, none])], M, L) Q := by
  have e : (σ ++ [(2, 0, [none, none])]).length = σ.length + 1 := by rw [List.length_append]; rfl
  have h0 : (σ ++ [((2 : Nat), (0 : Nat), [(none : Option Nat), none])])[σ.length]? = some (2, 0, [none, none]) := by
    rw [List.getElem?_append_right (Nat.le_refl _), Nat.sub_self]; rfl
  have es : shL (σ ++ [(2, 0, [none, none])]) σ.length = σ ++ [(2, 0, [some (σ.length + 1), some (σ.length + 2)]), (20, 6, []), (20, 6, [])] := by
    unfold shL
    rw [e, List.append_assoc, List.singleton_append, zsr_new, List.append_assoc, List.cons_append, List.singleton_append, zsr_new]
    rfl
  refine n_la_init h0 (fun M' L' a1 a2 => ?_)
  rw [es]
  rw [e] at a1 a2
  exact h M' L' a1 (fun k hk => a2 k (by omega))
end MN
