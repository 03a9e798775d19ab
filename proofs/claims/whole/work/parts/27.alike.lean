/-! alike, by the class -/
section AL
variable {d : Nat} {M L : zM} {Q : Int → zW → Prop} {P R : Nat → Nat} {ws : List (List Int)}
theorem sAlike_eq {P R : Nat → Nat} {ws : List (List Int)} {a b : Int} : sAlike P R ws a b = if lw P R false (ws.getD a.toNat []) = lw P R false (ws.getD b.toNat []) then 1 else 0 := by
  unfold sAlike
  by_cases g : (ws.getD a.toNat []).length = (ws.getD b.toNat []).length
  · rw [if_pos g]
  · rw [if_neg g, if_neg (fun q => g ?_)]
    have := congrArg List.length q
    rw [lw_len, lw_len] at this
    exact this
theorem e_lt_alike {a b : Int} (hs : sS M 7 ws) (hl : lIs M 1 P R) (hlo : lOk P R)
    (hno : ¬ ((0 ≤ a ∧ a < ws.length) ∧ (0 ≤ b ∧ b < ws.length)) → Q (-1) (SH, zmu M 81 0 (zwr (M 81 0 + 1)), L))
    (h : (0 ≤ a ∧ a < ws.length) → (0 ≤ b ∧ b < ws.length) → ∀ M', cFr cB M M' → Q (sAlike P R ws a b) (SH, M', L)) : zEv (d + 7) m_lt_alike [zR 0, zI a, zI b] (SH, M, L) Q := by
  have h5 := hs.2.1
  refine b_lt_alike (g_lt_alike_0 (e_lt_noWord hs (g_lt_alike_5 ?_)))
  by_cases ga : 0 ≤ a ∧ a < ws.length
  · rw [if_pos ga]
    refine zif_t rfl (e_lt_noWord hs (g_lt_alike_13 ?_))
    by_cases gb : 0 ≤ b ∧ b < ws.length
    · rw [if_pos gb]
      have h := h ga gb
      rw [sAlike_eq] at h
      have la := sS_len zShf_7 hs (show a.toNat < ws.length by omega)
      have lb := sS_len zShf_7 hs (show b.toNat < ws.length by omega)
      obtain ⟨a1, a2⟩ := hs.2.2 a.toNat (by omega)
      obtain ⟨b1, b2⟩ := hs.2.2 b.toNat (by omega)
      have za := (zShf_7.2.2.2.2.2.2 a.toNat (by omega)).2.1
      have zb := (zShf_7.2.2.2.2.2.2 b.toNat (by omega)).2.1
      refine zif_t rfl (e_sh_row zShf_7 hs ga ?_)
      rw [Int.toNat_natCast]
      refine g_lt_alike_34 za (e_sh_row zShf_7 hs gb ?_)
      rw [Int.toNat_natCast]
      refine g_lt_alike_42 zb za (e_be_sameKind (d := d) za zb (by unfold cB; simp; omega) (by unfold cB; simp; omega) a1 b1 a2 b2 hl hlo (by omega) (by omega) (fun M' f => g_lt_alike_45 (e_lt_answer (g_lt_alike_48 ?_))))
      have h3 := h M' f
      by_cases gl : lw P R false (ws.getD a.toNat []) = lw P R false (ws.getD b.toNat [])
      · rw [if_pos gl] at h3 ⊢; exact h3
      · rw [if_neg gl] at h3 ⊢; exact h3
    · rw [if_neg gb]
      exact zif_f (by omega) (e_lt_refuse (k := 1) (by omega) (g_lt_alike_21 (hno (fun q => gb q.2))))
  · rw [if_neg ga]
    exact zif_f (by omega) (e_lt_refuse (k := 1) (by omega) (g_lt_alike_21 (hno (fun q => ga q.1))))
end AL
