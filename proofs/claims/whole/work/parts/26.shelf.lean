/-! the class: its shelf; alike -/
/-- the shelf s keeps the words ws -/
def sS (M : zM) (s : Nat) (ws : List (List Int)) : Prop := M s 2 = (ws.length : Int) ∧ ws.length ≤ 5 ∧ ∀ i, i < ws.length → rIs M (s + 4 + 2 * i) (ws.getD i []) ∧ isW (ws.getD i [])
section SH1
variable {d : Nat} {M L : zM} {Q : Int → zW → Prop} {s : Nat} {P R : Nat → Nat} {ws : List (List Int)}
theorem sS_len {i : Nat} (hz : zShf s) (hs : sS M s ws) (hi : i < ws.length) : (ws.getD i []).length ≤ 14 := by
  have h1 := (hs.2.2 i hi).1.2.2
  have h5 := hs.2.1
  have h2 := (hz.2.2.2.2.2.2 i (by omega)).2.2
  rw [show s + 4 + 2 * i + 1 = s + 5 + 2 * i by omega, h2] at h1
  omega
theorem e_sh_size (hz : zShf s) (hs : sS M s ws) (h : Q (ws.length : Int) (SH, M, L)) : zEv (d + 1) m_sh_size [zR s] (SH, M, L) Q := by
  refine b_sh_size (g_sh_size_0 hz ?_)
  rw [hs.1]; exact h
theorem e_sh_row {a : Int} (hz : zShf s) (hs : sS M s ws) (ha : 0 ≤ a ∧ a < ws.length) (h : Q ((s + 4 + 2 * a.toNat : Nat) : Int) (SH, M, L)) : zEv (d + 1) m_sh_row [zR s, zI a] (SH, M, L) Q := by
  have h5 := hs.2.1
  refine b_sh_row (g_sh_row_0 hz (zif_f (by omega) ?_))
  rw [hs.1]
  refine zif_t (by omega) (zck_i ⟨by omega, by rw [hz.2.2.2.2.2.1]; omega⟩ (zom_i (hz.2.2.2.2.2.2 a.toNat (by omega)).1 h))
theorem e_lt_noWord {a : Int} (hs : sS M 7 ws) (h : Q (if 0 ≤ a ∧ a < ws.length then 0 else 1) (SH, M, L)) : zEv (d + 2) m_lt_noWord [zR 0, zI a] (SH, M, L) Q := by
  refine b_lt_noWord (g_lt_noWord_0 (zif_c (fun g => ?_) (fun g => e_sh_size zShf_7 hs (g_lt_noWord_12 (zif_c (fun g2 => ?_) (fun g2 => ?_))))))
  · rw [if_neg (by omega)] at h; exact h
  · rw [if_pos (by omega)] at h; exact h
  · rw [if_neg (by omega)] at h; exact h
theorem e_lt_refuse {k : Nat} (hk : 1 ≤ k ∧ k < 7) (h : Q (-(k : Int)) (SH, zmu M 81 (k - 1) (zwr (M 81 (k - 1) + 1)), L)) : zEv (d + 1) m_lt_refuse [zR 0, zI (-(k : Int))] (SH, M, L) Q := by
  refine b_lt_refuse (g_lt_refuse_0 ?_)
  rw [Int.neg_neg, zwr_id (x := (k : Int)) (by omega) (by omega), zwr_id (x := (k : Int) - 1) (by omega) (by omega), show ((k : Int) - 1) = ((k - 1 : Nat) : Int) by omega, Int.toNat_natCast]
  exact zif_f (by omega) (zif_t (by omega) (zck_i ⟨by omega, by omega⟩ (zck_i ⟨by omega, by omega⟩ h)))
theorem e_lt_answer {a : Int} (h : Q (if a = 0 then 0 else 1) (SH, M, L)) : zEv (d + 1) m_lt_answer [zI a] (SH, M, L) Q := by
  refine b_lt_answer (g_lt_answer_0 (zif_c (fun g => ?_) (fun g => ?_)))
  · rw [if_pos g] at h; exact h
  · rw [if_neg g] at h; exact h
end SH1
