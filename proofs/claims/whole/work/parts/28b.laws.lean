/-! Laws: two ranks change places -/
section LT
variable {d : Nat} {M L : zM} {Q : Int → zW → Prop} {l : Nat} {P R : Nat → Nat} {a b : Int}
/-- the ranks of a and b change places -/
def swR (R : Nat → Nat) (a b : Nat) : Nat → Nat := fun c => if c = b then R a else if c = a then R b else R c
theorem la_swap_ok (hz : zLaw l) (hl : lIs M l P R) (ha : 0 ≤ a ∧ a < 6) (hb : 0 ≤ b ∧ b < 6) : lIs (zmu (zmu M (l + 2) (Int.toNat a) (M (l + 2) (Int.toNat b))) (l + 2) (Int.toNat b) (M (l + 2) (Int.toNat a))) l P (swR R a.toNat b.toNat) := by
  intro c hc
  have h0 := hl c hc
  refine ⟨?_, ?_⟩
  · rw [zmu_k (by omega), zmu_k (by omega)]; exact h0.1
  · unfold swR
    by_cases e : c = b.toNat
    · rw [if_pos e, e, zmu_s]; exact (hl _ (by omega)).2
    · rw [if_neg e, zmu_j e]
      by_cases e2 : c = a.toNat
      · rw [if_pos e2, e2, zmu_s]; exact (hl _ (by omega)).2
      · rw [if_neg e2, zmu_j e2]; exact h0.2
theorem e_la_swapRanks (hz : zLaw l) (hl : lIs M l P R) (ha : 0 ≤ a ∧ a < 6) (hb : 0 ≤ b ∧ b < 6) (hne : a ≠ b) (h : ∀ M', lIs M' l P (swR R a.toNat b.toNat) → lFr M M' l → Q 0 (SH, M', L)) : zEv (d + 3) m_la_swapRanks [zR l, zI a, zI b] (SH, M, L) Q := by
  refine b_la_swapRanks (g_la_swapRanks_0 hz (e_lt_notTwoLetters (g_la_swapRanks_5 hz ?_)))
  have z1 := hz.2.2.2.2.2.2
  rw [if_pos (show 0 ≤ a ∧ a < 6 ∧ 0 ≤ b ∧ b < 6 ∧ a ≠ b by omega)]
  refine zif_t rfl (zck_i ⟨by omega, by omega⟩ (zck_i ⟨by omega, by omega⟩ (zck_i ⟨by omega, by omega⟩ (zck_i ⟨by omega, by omega⟩ (h _ (la_swap_ok hz hl ha hb) (fun k _ h2 => ?_))))))
  rw [zmu_kf h2, zmu_kf h2]
end LT
