/-! Laws: two ranks change places -/
section LT
variable {d : Nat} {M L : zM} {Q : Int → zW → Prop} {l : Nat} {P R : Nat → Nat} {a b : Int}
/-- the ranks of a and b change places -/
def swR (R : Nat → Nat) (a b : Nat) : Nat → Nat := fun c => if c = b then R a else if c = a then R b else R c
theorem la_swap_ok (hz : zLaw l) (hl : lIs M l P R) (ha : 0 ≤ a ∧ a < 6) (hb : 0 ≤ b ∧ b < 6) : lIs (zmu (zmu M (l + 2) (Int.toNat a) (M (l + 2) (Int.toNat b))) (l + 2) (Int.toNat b) (M (l + 2) (Int.toNat a))) l P (swR R a.toNat b.toNat) := by
  intro c hc
  have h0 := hl c hc
  refine ⟨?_, ?_⟩
  · rw [zmu_k (by omega), zmu_k (by omega)]; exact h0.1
  · unfold swR
    by_cases e : c = b.toNat
    · rw [if_pos e, e, zmu_s]; exact (hl _ (by omega)).2
    · rw [if_neg e, zmu_j e]
      by_cases e2 : c = a.toNat
      · rw [if_pos e2, e2, zmu_s]; exact (hl _ (by omega)).2
      · rw [if_neg e2, zmu_j e2]; exact h0.2
end LT
