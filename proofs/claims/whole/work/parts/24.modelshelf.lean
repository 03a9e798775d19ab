/-! the reference: its words -/
/-- the reference keeps the words ws -/
def mS (M : zM) (ws : List (List Int)) : Prop := M 112 2 = (ws.length : Int) ∧ ws.length ≤ 5 ∧ ∀ i, i < ws.length → M 115 i = ((ws.getD i []).length : Int) ∧ (ws.getD i []).length ≤ 14 ∧ isW (ws.getD i []) ∧ ∀ j, j < (ws.getD i []).length → M 116 (14 * i + j) = (ws.getD i []).getD j 0
section MW
variable {d : Nat} {M L : zM} {Q : Int → zW → Prop} {r o : Nat} {P R : Nat → Nat} {ws : List (List Int)}
theorem e_mo_isIn {a b c : Int} (h : Q (if b ≤ a ∧ a ≤ c then 1 else 0) (SH, M, L)) : zEv (d + 1) m_mo_isIn [zI a, zI b, zI c] (SH, M, L) Q := by
  refine b_mo_isIn (g_mo_isIn_0 ?_)
  repeat' first | refine zif_c (fun g => ?_) (fun g => ?_)
  all_goals first | (rw [if_pos (show b ≤ a ∧ a ≤ c by omega)] at h; exact h) | (rw [if_neg (show ¬ (b ≤ a ∧ a ≤ c) by omega)] at h; exact h)
theorem e_mo_isWord {a : Int} (hs : mS M ws) (h : Q (if 0 ≤ a ∧ a < ws.length then 1 else 0) (SH, M, L)) : zEv (d + 2) m_mo_isWord [zR 112, zI a] (SH, M, L) Q := by
  have h5 := hs.2.1
  refine b_mo_isWord (g_mo_isWord_0 (e_mo_isIn (g_mo_isWord_11 ?_)))
  rw [hs.1, zwr_id (by omega) (by omega)]
  by_cases g : 0 ≤ a ∧ a < ws.length
  · rw [if_pos g] at h
    rw [if_pos (show 0 ≤ a ∧ a ≤ (ws.length : Int) - 1 by omega)]
    exact h
  · rw [if_neg g] at h
    rw [if_neg (show ¬ (0 ≤ a ∧ a ≤ (ws.length : Int) - 1) by omega)]
    exact h
theorem e_mo_no {k : Nat} (hk : k < 7) (h : Q (-(k : Int)) (SH, zmu M 117 k (zwr (M 117 k + 1)), L)) : zEv (d + 1) m_mo_no [zR 112, zI (-(k : Int))] (SH, M, L) Q := by
  refine b_mo_no (g_mo_no_0 ?_)
  rw [Int.neg_neg, zwr_id (by omega) (by omega), Int.toNat_natCast]
  exact zck_i ⟨by omega, by omega⟩ (zck_i ⟨by omega, by omega⟩ h)
theorem mo_loads_loop {s i : Nat} (hr : zkd SH r = 20) (hr1 : r ≠ 115) (hr2 : r ≠ 116) (hs : mS M ws) (hi : i < ws.length) (hl : (s : Int) + (ws.getD i []).length ≤ zln SH r) (hz : zln SH r ≤ 20000)
    (h : ∀ M', (∀ j, j < (ws.getD i []).length → M' r (s + j) = (ws.getD i []).getD j 0) → (∀ j, j < s → M' r j = M r j) → cFr [r] M M' → Q ((s : Int) + (ws.getD i []).length) (SH, M', L)) :
    ∀ (n k : Nat) (Mk : zM), k + n = (ws.getD i []).length → (∀ j, j < k → Mk r (s + j) = (ws.getD i []).getD j 0) → (∀ j, j < s → Mk r j = M r j) → cFr [r] M Mk → zEx (d + 1) m_mo_loads zb0 Q 3 ([zR 112, zR r, zI (s : Int), zI (i : Int), zI (k : Int)], [], SH, Mk, L) := by
  obtain ⟨s1, s2, s3, s4⟩ := hs.2.2 i hi
  have h5 := hs.2.1
  intro n
  induction n with
  | zero =>
    intro k Mk hk h1 h2 hf
    refine g_mo_loads_3 hr (zck_i ⟨by omega, by omega⟩ ?_)
    rw [Int.toNat_natCast, hf 115 (by simpa using Ne.symm hr1), s1]
    refine zif_f (by omega) (zck_i ⟨by omega, by omega⟩ ?_)
    rw [zwr_id (by omega) (by omega)]
    exact h Mk (fun j hj => h1 j (by omega)) h2 hf
  | succ n ih =>
    intro k Mk hk h1 h2 hf
    refine g_mo_loads_3 hr (zck_i ⟨by omega, by omega⟩ ?_)
    rw [Int.toNat_natCast, hf 115 (by simpa using Ne.symm hr1), s1]
    refine zif_t (by omega) ?_
    rw [zwr_id (x := 14 * (i : Int)) (by omega) (by omega), zwr_id (x := 14 * (i : Int) + k) (by omega) (by omega), zwr_id (x := (s : Int) + k) (by omega) (by omega), zwr_id (x := (k : Int) + 1) (by omega) (by omega), show (14 * (i : Int) + k) = ((14 * i + k : Nat) : Int) by omega, show ((s : Int) + k) = ((s + k : Nat) : Int) by omega, show ((k : Int) + 1) = ((k + 1 : Nat) : Int) by omega, Int.toNat_natCast, Int.toNat_natCast]
    refine zck_i ⟨by omega, by omega⟩ (zck_i ⟨by omega, by omega⟩ ?_)
    rw [hf 116 (by simpa using Ne.symm hr2), s4 k (by omega)]
    refine ih (k + 1) _ (by omega) (fun j hj => ?_) (fun j hj => ?_) (fun a ha => ?_)
    · by_cases q : j = k
      · rw [q, zmu_s]
      · rw [zmu_j (by omega)]; exact h1 j (by omega)
    · rw [zmu_j (by omega)]; exact h2 j hj
    · rw [zmu_kf (by simpa using ha)]; exact hf a ha
theorem e_mo_loads {s i : Nat} (hr : zkd SH r = 20) (hr1 : r ≠ 115) (hr2 : r ≠ 116) (hs : mS M ws) (hi : i < ws.length) (hl : (s : Int) + (ws.getD i []).length ≤ zln SH r) (hz : zln SH r ≤ 20000)
    (h : ∀ M', (∀ j, j < (ws.getD i []).length → M' r (s + j) = (ws.getD i []).getD j 0) → (∀ j, j < s → M' r j = M r j) → cFr [r] M M' → Q ((s : Int) + (ws.getD i []).length) (SH, M', L)) : zEv (d + 1) m_mo_loads [zR 112, zR r, zI (s : Int), zI (i : Int)] (SH, M, L) Q :=
  b_mo_loads (g_mo_loads_0 hr (by simpa using mo_loads_loop (d := d) hr hr1 hr2 hs hi hl hz h (ws.getD i []).length 0 M (by omega) (fun j hj => by omega) (fun _ _ => rfl) cFr.rf))
end MW
