/-! Laws: the same -/
section LS
variable {d : Nat} {M L : zM} {Q : Int → zW → Prop} {l o : Nat} {P R P' R' : Nat → Nat}
/-- two laws say the same of the six letters -/
def lEq (P R P' R' : Nat → Nat) : Prop := ∀ a, a < 6 → P a = P' a ∧ R a = R' a
theorem la_same_loop (hz : zLaw l) (hz' : zLaw o) (hl : lIs M l P R) (hl' : lIs M o P' R') (h1 : lEq P R P' R' → Q 1 (SH, M, L)) (h0 : ¬ lEq P R P' R' → Q 0 (SH, M, L)) :
    ∀ (n k : Nat), k + n = 6 → (∀ a, a < k → P a = P' a ∧ R a = R' a) → zEx (d + 1) m_la_same zb0 Q 2 ([zR l, zR o, zI (k : Int)], [], SH, M, L) := by
  intro n
  induction n with
  | zero =>
    intro k hk h
    exact g_la_same_2 hz hz' (zif_f (by omega) (h1 (fun a ha => h a (by omega))))
  | succ n ih =>
    intro k hk h
    have z1 := hz.2.2.2.2.2; have z2 := hz'.2.2.2.2.2
    refine g_la_same_2 hz hz' (zif_t (by omega) (zck_i ⟨by omega, by omega⟩ (zck_i ⟨by omega, by omega⟩ ?_)))
    rw [Int.toNat_natCast, (hl k (by omega)).1, (hl' k (by omega)).1, (hl k (by omega)).2, (hl' k (by omega)).2, zwr_id (by omega) (by omega), show ((k : Int) + 1) = ((k + 1 : Nat) : Int) by omega]
    refine zif_c (fun g => zck_i ⟨by omega, by omega⟩ (zck_i ⟨by omega, by omega⟩ (zif_c (fun g2 => ih (k + 1) (by omega) (fun a ha => ?_)) (fun g2 => h0 (fun q => g2 ?_))))) (fun g => h0 (fun q => g ?_))
    · by_cases e : a = k
      · subst e; exact ⟨by omega, by omega⟩
      · exact h a (by omega)
    · rw [(q k (by omega)).2]
    · rw [(q k (by omega)).1]
theorem e_la_same (hz : zLaw l) (hz' : zLaw o) (hl : lIs M l P R) (hl' : lIs M o P' R') (h1 : lEq P R P' R' → Q 1 (SH, M, L)) (h0 : ¬ lEq P R P' R' → Q 0 (SH, M, L)) : zEv (d + 1) m_la_same [zR l, zR o] (SH, M, L) Q :=
  b_la_same (g_la_same_0 hz hz' (la_same_loop hz hz' hl hl' h1 h0 6 0 (by omega) (fun a ha => by omega)))
end LS
