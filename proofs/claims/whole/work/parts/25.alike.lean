/-! alike, by the reference -/
section MB
variable {d : Nat} {M L : zM} {Q : Int → zW → Prop} {P R : Nat → Nat} {ws : List (List Int)}
theorem cFr.mws {S : List Nat} {M M' : zM} {ws : List (List Int)} (h : cFr S M M') (hs : mS M ws) (h1 : 112 ∉ S) (h2 : 115 ∉ S) (h3 : 116 ∉ S) : mS M' ws := by
  unfold mS at hs ⊢
  rw [h 112 h1, h 115 h2, h 116 h3]
  exact hs
/-- what alike says -/
def sAlike (P R : Nat → Nat) (ws : List (List Int)) (a b : Int) : Int := if (ws.getD a.toNat []).length = (ws.getD b.toNat []).length then (if lw P R false (ws.getD a.toNat []) = lw P R false (ws.getD b.toNat []) then 1 else 0) else 0
theorem e_mo_alike {a b : Int} (hs : mS M ws) (hl : lIs M 112 P R) (hlo : lOk P R)
    (hno : ¬ ((0 ≤ a ∧ a < ws.length) ∧ (0 ≤ b ∧ b < ws.length)) → Q (-1) (SH, zmu M 117 1 (zwr (M 117 1 + 1)), L))
    (h : (0 ≤ a ∧ a < ws.length) → (0 ≤ b ∧ b < ws.length) → ∀ M', cFr [128, 129, 130, 131, 132] M M' → Q (sAlike P R ws a b) (SH, M', L)) : zEv (d + 5) m_mo_alike [zR 112, zI a, zI b] (SH, M, L) Q := by
  have h5 := hs.2.1
  refine b_mo_alike (g_mo_alike_0 (e_mo_isWord hs (g_mo_alike_5 ?_)))
  by_cases ga : 0 ≤ a ∧ a < ws.length
  · rw [if_pos ga]
    refine zif_f (by omega) (e_mo_isWord hs (g_mo_alike_13 ?_))
    by_cases gb : 0 ≤ b ∧ b < ws.length
    · rw [if_pos gb]
      obtain ⟨a1, a2, a3, a4⟩ := hs.2.2 a.toNat (by omega)
      obtain ⟨b1, b2, b3, b4⟩ := hs.2.2 b.toNat (by omega)
      have h := h ga gb
      refine zif_f (by omega) (zck_i ⟨by omega, by omega⟩ (zck_i ⟨by omega, by omega⟩ ?_))
      rw [a1, b1]
      refine zif_c (fun g => ?_) (fun g => ?_)
      · have ge : (ws.getD a.toNat []).length = (ws.getD b.toNat []).length := by omega
        have ea : zI a = zI ((a.toNat : Nat) : Int) := by rw [Int.toNat_of_nonneg ga.1]
        have eb : zI b = zI ((b.toNat : Nat) : Int) := by rw [Int.toNat_of_nonneg gb.1]
        rw [ea]
        refine e_mo_loads (s := 0) (i := a.toNat) zk_128 (by decide) (by decide) hs (by omega) (by rw [zl_128]; omega) (by rw [zl_128]; omega) (fun M1 m1 _ f1 => ?_)
        have m1' : aIs M1 128 (ws.getD a.toNat []) := ⟨fun j hj => by simpa using m1 j hj, by rw [zl_128]; omega⟩
        have hs1 := f1.mws hs (by decide) (by decide) (by decide)
        refine g_mo_alike_49 ?_
        rw [eb]
        refine e_mo_loads (s := 0) (i := b.toNat) zk_129 (by decide) (by decide) hs1 (by omega) (by rw [zl_129]; omega) (by rw [zl_129]; omega) (fun M2 m2 _ f2 => ?_)
        have m2' : aIs M2 129 (ws.getD b.toNat []) := ⟨fun j hj => by simpa using m2 j hj, by rw [zl_129]; omega⟩
        have m1'' := f2.arr m1' (by decide)
        have hl2 : lIs M2 112 P R := cFr.law f2 (cFr.law f1 hl (by decide) (by decide)) (by decide) (by decide)
        refine g_mo_alike_60 (zck_i ⟨by omega, by omega⟩ ?_)
        rw [Int.toNat_natCast, f2 115 (by decide), f1 115 (by decide), a1]
        refine e_mo_areAlike (d := d) zk_128 (by decide) zk_129 (by decide) (by decide) hl2 hlo m1'' m2' a3 b3 ge (by omega) (fun M3 f3 => g_mo_alike_79 ?_)
        have h3 := h M3 (((f1.up (by decide)).tr (f2.up (by decide))).tr (f3.up (by decide)))
        unfold sAlike at h3
        rw [if_pos ge] at h3
        by_cases gl : lw P R false (ws.getD a.toNat []) = lw P R false (ws.getD b.toNat [])
        · rw [if_pos gl] at h3 ⊢; exact h3
        · rw [if_neg gl] at h3 ⊢; exact h3
      · have h3 := h M (fun _ _ => rfl)
        unfold sAlike at h3
        rw [if_neg (by omega)] at h3
        exact h3
    · rw [if_neg gb]
      exact zif_t rfl (e_mo_no (k := 1) (by omega) (g_mo_alike_21 (hno (fun q => gb q.2))))
  · rw [if_neg ga]
    exact zif_t rfl (e_mo_no (k := 1) (by omega) (g_mo_alike_21 (hno (fun q => ga q.1))))
end MB
