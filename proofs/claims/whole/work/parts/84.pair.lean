/-! each call, on both objects: the same answer, and the same state behind it -/
def zPair (μ μ' : Nat) (as : List zV) : Prop := ∀ w, zBoth w → zEv 9 μ (zR 0 :: as) w (fun r w1 => w1.1 = SH ∧ zEv 9 μ' (zR 112 :: as) w1 (fun r' w2 => r' = r ∧ w2.1 = SH ∧ zBoth w2))
theorem pr_letter {x1 : Int} (h1 : zr32 x1) : zPair m_lt_letter m_mo_letter [zI x1] := by
  rintro w ⟨M, L, P, R, ws, tx, hs, kp, ls, rf, rfl, hC, hM⟩
  refine c_lt_letter (d := 0)  hC (fun M1 L1 j a => ⟨rfl, ?_⟩)
  refine c_mo_letter (d := 0)  (hM.am a) (fun M2 L2 j2 a2 => ⟨rfl, rfl, ?_⟩)
  exact ⟨M2, L2, _, _, _, _, _, _, _, _, rfl, iC.ac j a2, j2⟩
theorem pr_passes {x1 x2 : Int} (h1 : zr32 x1) (h2 : zr32 x2) : zPair m_lt_passes m_mo_passes [zI x1, zI x2] := by
  rintro w ⟨M, L, P, R, ws, tx, hs, kp, ls, rf, rfl, hC, hM⟩
  refine c_lt_passes (d := 0)  hC (fun M1 L1 j a => ⟨rfl, ?_⟩)
  refine c_mo_passes (d := 0)  (hM.am a) (fun M2 L2 j2 a2 => ⟨rfl, rfl, ?_⟩)
  exact ⟨M2, L2, _, _, _, _, _, _, _, _, rfl, iC.ac j a2, j2⟩
theorem pr_ranks {x1 x2 : Int} (h1 : zr32 x1) (h2 : zr32 x2) : zPair m_lt_ranks m_mo_ranks [zI x1, zI x2] := by
  rintro w ⟨M, L, P, R, ws, tx, hs, kp, ls, rf, rfl, hC, hM⟩
  refine c_lt_ranks (d := 0)  hC (fun M1 L1 j a => ⟨rfl, ?_⟩)
  refine c_mo_ranks (d := 0)  (hM.am a) (fun M2 L2 j2 a2 => ⟨rfl, rfl, ?_⟩)
  exact ⟨M2, L2, _, _, _, _, _, _, _, _, rfl, iC.ac j a2, j2⟩
theorem pr_of {x1 x2 : Int} (h1 : zr32 x1) (h2 : zr32 x2) : zPair m_lt_of m_mo_of [zI x1, zI x2] := by
  rintro w ⟨M, L, P, R, ws, tx, hs, kp, ls, rf, rfl, hC, hM⟩
  refine c_lt_of (d := 0)  hC (fun M1 L1 j a => ⟨rfl, ?_⟩)
  refine c_mo_of (d := 0)  (hM.am a) (fun M2 L2 j2 a2 => ⟨rfl, rfl, ?_⟩)
  exact ⟨M2, L2, _, _, _, _, _, _, _, _, rfl, iC.ac j a2, j2⟩
theorem pr_rules : zPair m_lt_rules m_mo_rules [] := by
  rintro w ⟨M, L, P, R, ws, tx, hs, kp, ls, rf, rfl, hC, hM⟩
  refine c_lt_rules (d := 0)  hC (fun M1 L1 j a => ⟨rfl, ?_⟩)
  refine c_mo_rules (d := 0)  (hM.am a) (fun M2 L2 j2 a2 => ⟨rfl, rfl, ?_⟩)
  exact ⟨M2, L2, _, _, _, _, _, _, _, _, rfl, iC.ac j a2, j2⟩
theorem pr_word : zPair m_lt_word m_mo_word [] := by
  rintro w ⟨M, L, P, R, ws, tx, hs, kp, ls, rf, rfl, hC, hM⟩
  refine c_lt_word (d := 0)  hC (fun M1 L1 j a => ⟨rfl, ?_⟩)
  refine c_mo_word (d := 0)  (hM.am a) (fun M2 L2 j2 a2 => ⟨rfl, rfl, ?_⟩)
  exact ⟨M2, L2, _, _, _, _, _, _, _, _, rfl, iC.ac j a2, j2⟩
theorem pr_at {x1 x2 : Int} (h1 : zr32 x1) (h2 : zr32 x2) : zPair m_lt_at m_mo_at [zI x1, zI x2] := by
  rintro w ⟨M, L, P, R, ws, tx, hs, kp, ls, rf, rfl, hC, hM⟩
  refine c_lt_at (d := 0)  hC (fun M1 L1 j a => ⟨rfl, ?_⟩)
  refine c_mo_at (d := 0)  (hM.am a) (fun M2 L2 j2 a2 => ⟨rfl, rfl, ?_⟩)
  exact ⟨M2, L2, _, _, _, _, _, _, _, _, rfl, iC.ac j a2, j2⟩
theorem pr_drop : zPair m_lt_drop m_mo_drop [] := by
  rintro w ⟨M, L, P, R, ws, tx, hs, kp, ls, rf, rfl, hC, hM⟩
  refine c_lt_drop (d := 0)  hC (fun M1 L1 j a => ⟨rfl, ?_⟩)
  refine c_mo_drop (d := 0)  (hM.am a) (fun M2 L2 j2 a2 => ⟨rfl, rfl, ?_⟩)
  exact ⟨M2, L2, _, _, _, _, _, _, _, _, rfl, iC.ac j a2, j2⟩
theorem pr_alike {x1 x2 : Int} (h1 : zr32 x1) (h2 : zr32 x2) : zPair m_lt_alike m_mo_alike [zI x1, zI x2] := by
  rintro w ⟨M, L, P, R, ws, tx, hs, kp, ls, rf, rfl, hC, hM⟩
  refine c_lt_alike (d := 0)  hC (fun M1 L1 j a => ⟨rfl, ?_⟩)
  refine c_mo_alike (d := 0)  (hM.am a) (fun M2 L2 j2 a2 => ⟨rfl, rfl, ?_⟩)
  exact ⟨M2, L2, _, _, _, _, _, _, _, _, rfl, iC.ac j a2, j2⟩
theorem pr_blocks {x1 x2 : Int} (h1 : zr32 x1) (h2 : zr32 x2) : zPair m_lt_blocks m_mo_blocks [zI x1, zI x2] := by
  rintro w ⟨M, L, P, R, ws, tx, hs, kp, ls, rf, rfl, hC, hM⟩
  refine c_lt_blocks (d := 0)  hC (fun M1 L1 j a => ⟨rfl, ?_⟩)
  refine c_mo_blocks (d := 0)  (hM.am a) (fun M2 L2 j2 a2 => ⟨rfl, rfl, ?_⟩)
  exact ⟨M2, L2, _, _, _, _, _, _, _, _, rfl, iC.ac j a2, j2⟩
theorem pr_least {x1 x2 x3 : Int} (h1 : zr32 x1) (h2 : zr32 x2) (h3 : zr32 x3) : zPair m_lt_least m_mo_least [zI x1, zI x2, zI x3] := by
  rintro w ⟨M, L, P, R, ws, tx, hs, kp, ls, rf, rfl, hC, hM⟩
  refine c_lt_least (d := 0)  hC (fun M1 L1 j a => ⟨rfl, ?_⟩)
  refine c_mo_least (d := 0)  (hM.am a) (fun M2 L2 j2 a2 => ⟨rfl, rfl, ?_⟩)
  exact ⟨M2, L2, _, _, _, _, _, _, _, _, rfl, iC.ac j a2, j2⟩
theorem pr_copies {x1 : Int} (h1 : zr32 x1) : zPair m_lt_copies m_mo_copies [zI x1] := by
  rintro w ⟨M, L, P, R, ws, tx, hs, kp, ls, rf, rfl, hC, hM⟩
  refine c_lt_copies (d := 0)  hC (fun M1 L1 j a => ⟨rfl, ?_⟩)
  refine c_mo_copies (d := 0)  (hM.am a) (fun M2 L2 j2 a2 => ⟨rfl, rfl, ?_⟩)
  exact ⟨M2, L2, _, _, _, _, _, _, _, _, rfl, iC.ac j a2, j2⟩
theorem pr_seen {x1 x2 x3 x4 : Int} (h1 : zr32 x1) (h2 : zr32 x2) (h3 : zr32 x3) (h4 : zr32 x4) : zPair m_lt_seen m_mo_seen [zI x1, zI x2, zI x3, zI x4] := by
  rintro w ⟨M, L, P, R, ws, tx, hs, kp, ls, rf, rfl, hC, hM⟩
  refine c_lt_seen (d := 0)  hC (fun M1 L1 j a => ⟨rfl, ?_⟩)
  refine c_mo_seen (d := 0)  (hM.am a) (fun M2 L2 j2 a2 => ⟨rfl, rfl, ?_⟩)
  exact ⟨M2, L2, _, _, _, _, _, _, _, _, rfl, iC.ac j a2, j2⟩
theorem pr_spread {x1 x2 x3 x4 : Int} (h1 : zr32 x1) (h2 : zr32 x2) (h3 : zr32 x3) (h4 : zr32 x4) : zPair m_lt_spread m_mo_spread [zI x1, zI x2, zI x3, zI x4] := by
  rintro w ⟨M, L, P, R, ws, tx, hs, kp, ls, rf, rfl, hC, hM⟩
  refine c_lt_spread (d := 0)  hC (fun M1 L1 j a => ⟨rfl, ?_⟩)
  refine c_mo_spread (d := 0)  (hM.am a) (fun M2 L2 j2 a2 => ⟨rfl, rfl, ?_⟩)
  exact ⟨M2, L2, _, _, _, _, _, _, _, _, rfl, iC.ac j a2, j2⟩
theorem pr_odds {x1 x2 : Int} (h1 : zr32 x1) (h2 : zr32 x2) : zPair m_lt_odds m_mo_odds [zI x1, zI x2] := by
  rintro w ⟨M, L, P, R, ws, tx, hs, kp, ls, rf, rfl, hC, hM⟩
  refine c_lt_odds (d := 0)  hC (fun M1 L1 j a => ⟨rfl, ?_⟩)
  refine c_mo_odds (d := 0)  (hM.am a) (fun M2 L2 j2 a2 => ⟨rfl, rfl, ?_⟩)
  exact ⟨M2, L2, _, _, _, _, _, _, _, _, rfl, iC.ac j a2, j2⟩
theorem pr_begins {x1 x2 x3 : Int} (h1 : zr32 x1) (h2 : zr32 x2) (h3 : zr32 x3) : zPair m_lt_begins m_mo_begins [zI x1, zI x2, zI x3] := by
  rintro w ⟨M, L, P, R, ws, tx, hs, kp, ls, rf, rfl, hC, hM⟩
  refine c_lt_begins (d := 0)  hC (fun M1 L1 j a => ⟨rfl, ?_⟩)
  refine c_mo_begins (d := 0)  (hM.am a) (fun M2 L2 j2 a2 => ⟨rfl, rfl, ?_⟩)
  exact ⟨M2, L2, _, _, _, _, _, _, _, _, rfl, iC.ac j a2, j2⟩
theorem pr_common {x1 x2 x3 : Int} (h1 : zr32 x1) (h2 : zr32 x2) (h3 : zr32 x3) : zPair m_lt_common m_mo_common [zI x1, zI x2, zI x3] := by
  rintro w ⟨M, L, P, R, ws, tx, hs, kp, ls, rf, rfl, hC, hM⟩
  refine c_lt_common (d := 0)  hC (fun M1 L1 j a => ⟨rfl, ?_⟩)
  refine c_mo_common (d := 0)  (hM.am a) (fun M2 L2 j2 a2 => ⟨rfl, rfl, ?_⟩)
  exact ⟨M2, L2, _, _, _, _, _, _, _, _, rfl, iC.ac j a2, j2⟩
theorem pr_product {x1 x2 : Int} (h1 : zr32 x1) (h2 : zr32 x2) : zPair m_lt_product m_mo_product [zI x1, zI x2] := by
  rintro w ⟨M, L, P, R, ws, tx, hs, kp, ls, rf, rfl, hC, hM⟩
  refine c_lt_product (d := 0)  hC (fun M1 L1 j a => ⟨rfl, ?_⟩)
  refine c_mo_product (d := 0)  (hM.am a) (fun M2 L2 j2 a2 => ⟨rfl, rfl, ?_⟩)
  exact ⟨M2, L2, _, _, _, _, _, _, _, _, rfl, iC.ac j a2, j2⟩
theorem pr_power {x1 x2 : Int} (h1 : zr32 x1) (h2 : zr32 x2) : zPair m_lt_power m_mo_power [zI x1, zI x2] := by
  rintro w ⟨M, L, P, R, ws, tx, hs, kp, ls, rf, rfl, hC, hM⟩
  refine c_lt_power (d := 0) h2 hC (fun M1 L1 j a => ⟨rfl, ?_⟩)
  refine c_mo_power (d := 0) h2 (hM.am a) (fun M2 L2 j2 a2 => ⟨rfl, rfl, ?_⟩)
  exact ⟨M2, L2, _, _, _, _, _, _, _, _, rfl, iC.ac j a2, j2⟩
theorem pr_changes {x1 x2 : Int} (h1 : zr32 x1) (h2 : zr32 x2) : zPair m_lt_changes m_mo_changes [zI x1, zI x2] := by
  rintro w ⟨M, L, P, R, ws, tx, hs, kp, ls, rf, rfl, hC, hM⟩
  refine c_lt_changes (d := 0)  hC (fun M1 L1 j a => ⟨rfl, ?_⟩)
  refine c_mo_changes (d := 0)  (hM.am a) (fun M2 L2 j2 a2 => ⟨rfl, rfl, ?_⟩)
  exact ⟨M2, L2, _, _, _, _, _, _, _, _, rfl, iC.ac j a2, j2⟩
theorem pr_root {x1 x2 : Int} (h1 : zr32 x1) (h2 : zr32 x2) : zPair m_lt_root m_mo_root [zI x1, zI x2] := by
  rintro w ⟨M, L, P, R, ws, tx, hs, kp, ls, rf, rfl, hC, hM⟩
  refine c_lt_root (d := 0)  hC (fun M1 L1 j a => ⟨rfl, ?_⟩)
  refine c_mo_root (d := 0)  (hM.am a) (fun M2 L2 j2 a2 => ⟨rfl, rfl, ?_⟩)
  exact ⟨M2, L2, _, _, _, _, _, _, _, _, rfl, iC.ac j a2, j2⟩
theorem pr_parts {x1 x2 : Int} (h1 : zr32 x1) (h2 : zr32 x2) : zPair m_lt_parts m_mo_parts [zI x1, zI x2] := by
  rintro w ⟨M, L, P, R, ws, tx, hs, kp, ls, rf, rfl, hC, hM⟩
  refine c_lt_parts (d := 0)  hC (fun M1 L1 j a => ⟨rfl, ?_⟩)
  refine c_mo_parts (d := 0)  (hM.am a) (fun M2 L2 j2 a2 => ⟨rfl, rfl, ?_⟩)
  exact ⟨M2, L2, _, _, _, _, _, _, _, _, rfl, iC.ac j a2, j2⟩
theorem pr_turned {x1 : Int} (h1 : zr32 x1) : zPair m_lt_turned m_mo_turned [zI x1] := by
  rintro w ⟨M, L, P, R, ws, tx, hs, kp, ls, rf, rfl, hC, hM⟩
  refine c_lt_turned (d := 0)  hC (fun M1 L1 j a => ⟨rfl, ?_⟩)
  refine c_mo_turned (d := 0)  (hM.am a) (fun M2 L2 j2 a2 => ⟨rfl, rfl, ?_⟩)
  exact ⟨M2, L2, _, _, _, _, _, _, _, _, rfl, iC.ac j a2, j2⟩
theorem pr_turn {x1 x2 x3 : Int} (h1 : zr32 x1) (h2 : zr32 x2) (h3 : zr32 x3) : zPair m_lt_turn m_mo_turn [zI x1, zI x2, zI x3] := by
  rintro w ⟨M, L, P, R, ws, tx, hs, kp, ls, rf, rfl, hC, hM⟩
  refine c_lt_turn (d := 0)  hC (fun M1 L1 j a => ⟨rfl, ?_⟩)
  refine c_mo_turn (d := 0)  (hM.am a) (fun M2 L2 j2 a2 => ⟨rfl, rfl, ?_⟩)
  exact ⟨M2, L2, _, _, _, _, _, _, _, _, rfl, iC.ac j a2, j2⟩
theorem pr_apart {x1 x2 : Int} (h1 : zr32 x1) (h2 : zr32 x2) : zPair m_lt_apart m_mo_apart [zI x1, zI x2] := by
  rintro w ⟨M, L, P, R, ws, tx, hs, kp, ls, rf, rfl, hC, hM⟩
  refine c_lt_apart (d := 0)  hC (fun M1 L1 j a => ⟨rfl, ?_⟩)
  refine c_mo_apart (d := 0)  (hM.am a) (fun M2 L2 j2 a2 => ⟨rfl, rfl, ?_⟩)
  exact ⟨M2, L2, _, _, _, _, _, _, _, _, rfl, iC.ac j a2, j2⟩
theorem pr_unlike {x1 x2 : Int} (h1 : zr32 x1) (h2 : zr32 x2) : zPair m_lt_unlike m_mo_unlike [zI x1, zI x2] := by
  rintro w ⟨M, L, P, R, ws, tx, hs, kp, ls, rf, rfl, hC, hM⟩
  refine c_lt_unlike (d := 0)  hC (fun M1 L1 j a => ⟨rfl, ?_⟩)
  refine c_mo_unlike (d := 0)  (hM.am a) (fun M2 L2 j2 a2 => ⟨rfl, rfl, ?_⟩)
  exact ⟨M2, L2, _, _, _, _, _, _, _, _, rfl, iC.ac j a2, j2⟩
theorem pr_free : zPair m_lt_free m_mo_free [] := by
  rintro w ⟨M, L, P, R, ws, tx, hs, kp, ls, rf, rfl, hC, hM⟩
  refine c_lt_free (d := 0)  hC (fun M1 L1 j a => ⟨rfl, ?_⟩)
  refine c_mo_free (d := 0)  (hM.am a) (fun M2 L2 j2 a2 => ⟨rfl, rfl, ?_⟩)
  exact ⟨M2, L2, _, _, _, _, _, _, _, _, rfl, iC.ac j a2, j2⟩
theorem pr_lots {x1 x2 x3 x4 : Int} (h1 : zr32 x1) (h2 : zr32 x2) (h3 : zr32 x3) (h4 : zr32 x4) : zPair m_lt_lots m_mo_lots [zI x1, zI x2, zI x3, zI x4] := by
  rintro w ⟨M, L, P, R, ws, tx, hs, kp, ls, rf, rfl, hC, hM⟩
  refine c_lt_lots (d := 0)  hC (fun M1 L1 j a => ⟨rfl, ?_⟩)
  refine c_mo_lots (d := 0)  (hM.am a) (fun M2 L2 j2 a2 => ⟨rfl, rfl, ?_⟩)
  exact ⟨M2, L2, _, _, _, _, _, _, _, _, rfl, iC.ac j a2, j2⟩
theorem pr_list {x1 x2 : Int} (h1 : zr32 x1) (h2 : zr32 x2) : zPair m_lt_list m_mo_list [zI x1, zI x2] := by
  rintro w ⟨M, L, P, R, ws, tx, hs, kp, ls, rf, rfl, hC, hM⟩
  refine c_lt_list (d := 0)  hC (fun M1 L1 j a => ⟨rfl, ?_⟩)
  refine c_mo_list (d := 0)  (hM.am a) (fun M2 L2 j2 a2 => ⟨rfl, rfl, ?_⟩)
  exact ⟨M2, L2, _, _, _, _, _, _, _, _, rfl, iC.ac j a2, j2⟩
theorem pr_put {x1 x2 x3 : Int} (h1 : zr32 x1) (h2 : zr32 x2) (h3 : zr32 x3) : zPair m_lt_put m_mo_put [zI x1, zI x2, zI x3] := by
  rintro w ⟨M, L, P, R, ws, tx, hs, kp, ls, rf, rfl, hC, hM⟩
  refine c_lt_put (d := 0) h2 hC (fun M1 L1 j a => ⟨rfl, ?_⟩)
  refine c_mo_put (d := 0)  (hM.am a) (fun M2 L2 j2 a2 => ⟨rfl, rfl, ?_⟩)
  exact ⟨M2, L2, _, _, _, _, _, _, _, _, rfl, iC.ac j a2, j2⟩
theorem pr_look {x1 x2 : Int} (h1 : zr32 x1) (h2 : zr32 x2) : zPair m_lt_look m_mo_look [zI x1, zI x2] := by
  rintro w ⟨M, L, P, R, ws, tx, hs, kp, ls, rf, rfl, hC, hM⟩
  refine c_lt_look (d := 0) h2 hC (fun M1 L1 j a => ⟨rfl, ?_⟩)
  refine c_mo_look (d := 0)  (hM.am a) (fun M2 L2 j2 a2 => ⟨rfl, rfl, ?_⟩)
  exact ⟨M2, L2, _, _, _, _, _, _, _, _, rfl, iC.ac j a2, j2⟩
theorem pr_from {x1 x2 x3 : Int} (h1 : zr32 x1) (h2 : zr32 x2) (h3 : zr32 x3) : zPair m_lt_from m_mo_from [zI x1, zI x2, zI x3] := by
  rintro w ⟨M, L, P, R, ws, tx, hs, kp, ls, rf, rfl, hC, hM⟩
  refine c_lt_from (d := 0) h2 hC (fun M1 L1 j a => ⟨rfl, ?_⟩)
  refine c_mo_from (d := 0) h2 (hM.am a) (fun M2 L2 j2 a2 => ⟨rfl, rfl, ?_⟩)
  exact ⟨M2, L2, _, _, _, _, _, _, _, _, rfl, iC.ac j a2, j2⟩
theorem pr_lays {x1 x2 x3 : Int} (h1 : zr32 x1) (h2 : zr32 x2) (h3 : zr32 x3) : zPair m_lt_lays m_mo_lays [zI x1, zI x2, zI x3] := by
  rintro w ⟨M, L, P, R, ws, tx, hs, kp, ls, rf, rfl, hC, hM⟩
  refine c_lt_lays (d := 0) h2 hC (fun M1 L1 j a => ⟨rfl, ?_⟩)
  refine c_mo_lays (d := 0) h2 (hM.am a) (fun M2 L2 j2 a2 => ⟨rfl, rfl, ?_⟩)
  exact ⟨M2, L2, _, _, _, _, _, _, _, _, rfl, iC.ac j a2, j2⟩
theorem pr_judge {x1 x2 : Int} (h1 : zr32 x1) (h2 : zr32 x2) : zPair m_lt_judge m_mo_judge [zI x1, zI x2] := by
  rintro w ⟨M, L, P, R, ws, tx, hs, kp, ls, rf, rfl, hC, hM⟩
  refine c_lt_judge (d := 0)  hC (fun M1 L1 j a => ⟨rfl, ?_⟩)
  refine c_mo_judge (d := 0)  (hM.am a) (fun M2 L2 j2 a2 => ⟨rfl, rfl, ?_⟩)
  exact ⟨M2, L2, _, _, _, _, _, _, _, _, rfl, iC.ac j a2, j2⟩
theorem pr_undo : zPair m_lt_undo m_mo_undo [] := by
  rintro w ⟨M, L, P, R, ws, tx, hs, kp, ls, rf, rfl, hC, hM⟩
  obtain ⟨nx, -, -, -, -, hok⟩ := hC.h
  refine c_lt_undo (d := 0)  hC (fun M1 L1 j a => ⟨rfl, ?_⟩)
  refine c_mo_undo (d := 0) (fun i hi => (hok i hi).2) (hM.am a) (fun M2 L2 j2 a2 => ⟨rfl, rfl, ?_⟩)
  exact ⟨M2, L2, _, _, _, _, _, _, _, _, rfl, iC.ac j a2, j2⟩
theorem pr_image : zPair m_lt_image m_mo_image [] := by
  rintro w ⟨M, L, P, R, ws, tx, hs, kp, ls, rf, rfl, hC, hM⟩
  refine c_lt_image (d := 0)  hC (fun M1 L1 j a => ⟨rfl, ?_⟩)
  refine c_mo_image (d := 0)  (hM.am a) (fun M2 L2 j2 a2 => ⟨rfl, rfl, ?_⟩)
  exact ⟨M2, L2, _, _, _, _, _, _, _, _, rfl, iC.ac j a2, j2⟩
theorem pr_on : zPair m_lt_on m_mo_on [] := by
  rintro w ⟨M, L, P, R, ws, tx, hs, kp, ls, rf, rfl, hC, hM⟩
  refine c_lt_on (d := 0)  hC (fun M1 L1 j a => ⟨rfl, ?_⟩)
  refine c_mo_on (d := 0)  (hM.am a) (fun M2 L2 j2 a2 => ⟨rfl, rfl, ?_⟩)
  exact ⟨M2, L2, _, _, _, _, _, _, _, _, rfl, iC.ac j a2, j2⟩
theorem pr_count {x1 : Int} (h1 : zr32 x1) : zPair m_lt_count m_mo_count [zI x1] := by
  rintro w ⟨M, L, P, R, ws, tx, hs, kp, ls, rf, rfl, hC, hM⟩
  refine c_lt_count (d := 0)  hC (fun M1 L1 j a => ⟨rfl, ?_⟩)
  refine c_mo_count (d := 0)  (hM.am a) (fun M2 L2 j2 a2 => ⟨rfl, rfl, ?_⟩)
  exact ⟨M2, L2, _, _, _, _, _, _, _, _, rfl, iC.ac j a2, j2⟩
