/-! what each call does and answers -/
abbrev zSt : Type := (Nat → Nat) × (Nat → Nat) × List (List Int) × List Int × List zLw × zKp × (Nat → Option (List Int)) × (Nat → Int)
abbrev jC (M : zM) (s : zSt) : Prop := iC M s.1 s.2.1 s.2.2.1 s.2.2.2.1 s.2.2.2.2.1 s.2.2.2.2.2.1 s.2.2.2.2.2.2.1 s.2.2.2.2.2.2.2
abbrev jM (M : zM) (s : zSt) : Prop := iM M s.1 s.2.1 s.2.2.1 s.2.2.2.1 s.2.2.2.2.1 s.2.2.2.2.2.1 s.2.2.2.2.2.2.1 s.2.2.2.2.2.2.2
abbrev sNo (P R : Nat → Nat) (ws : List (List Int)) (tx : List Int) (hs : List zLw) (kp : zKp) (ls : Nat → Option (List Int)) (rf : Nat → Int) (k : Nat) : zSt × Int := ((P, R, ws, tx, hs, kp, ls, upr rf k), -(k : Int))
abbrev sNl (P R : Nat → Nat) (ws : List (List Int)) (tx : List Int) (hs : List zLw) (kp : zKp) (ls : Nat → Option (List Int)) (rf : Nat → Int) (k : Nat) : zSt × Int := ((P, R, ws, tx, hs, kp, ls, upr rf k), 4000000000000000000 + (k : Int))
abbrev sOk (P R : Nat → Nat) (ws : List (List Int)) (tx : List Int) (hs : List zLw) (kp : zKp) (ls : Nat → Option (List Int)) (rf : Nat → Int) (a : Int) : zSt × Int := ((P, R, ws, tx, hs, kp, ls, rf), a)
abbrev wd (ws : List (List Int)) (w : Int) : Prop := 0 ≤ w ∧ w < (ws.length : Int)
abbrev lt6 (a : Int) : Prop := 0 ≤ a ∧ a < 6
abbrev two (a b : Int) : Prop := 0 ≤ a ∧ a < 6 ∧ 0 ≤ b ∧ b < 6 ∧ a ≠ b
def gw (ws : List (List Int)) (w : Int) : List Int := ws.getD w.toNat []
def opLetter (P R : Nat → Nat) (ws : List (List Int)) (tx : List Int) (hs : List zLw) (kp : zKp) (ls : Nat → Option (List Int)) (rf : Nat → Int) (c : Int) : zSt × Int := if c < 0 then sNo P R ws tx hs kp ls rf 4 else if 255 < c ∨ 72 ≤ tx.length then sNo P R ws tx hs kp ls rf 6 else sOk P R ws (tx ++ [c]) hs kp ls rf ((tx.length : Int) + 1)
def opPasses (P R : Nat → Nat) (ws : List (List Int)) (tx : List Int) (hs : List zLw) (kp : zKp) (ls : Nat → Option (List Int)) (rf : Nat → Int) (a b : Int) : zSt × Int := if two a b then sOk (flP P a.toNat b.toNat) R ws tx (((P, R) :: hs).take 8) kp ls rf (if psL (flP P a.toNat b.toNat) a b then 1 else 0) else sNo P R ws tx hs kp ls rf 1
def opRanks (P R : Nat → Nat) (ws : List (List Int)) (tx : List Int) (hs : List zLw) (kp : zKp) (ls : Nat → Option (List Int)) (rf : Nat → Int) (a b : Int) : zSt × Int := if two a b then sOk P (swR R a.toNat b.toNat) ws tx (((P, R) :: hs).take 8) kp ls rf (swR R a.toNat b.toNat a.toNat) else sNo P R ws tx hs kp ls rf 1
def opOf (P R : Nat → Nat) (ws : List (List Int)) (tx : List Int) (hs : List zLw) (kp : zKp) (ls : Nat → Option (List Int)) (rf : Nat → Int) (a what : Int) : zSt × Int := if lt6 a then (if what = 0 then sOk P R ws tx hs kp ls rf (R a.toNat) else if what = 1 then sOk P R ws tx hs kp ls rf (P a.toNat) else sNo P R ws tx hs kp ls rf 2) else sNo P R ws tx hs kp ls rf 1
def opAt (P R : Nat → Nat) (ws : List (List Int)) (tx : List Int) (hs : List zLw) (kp : zKp) (ls : Nat → Option (List Int)) (rf : Nat → Int) (w i : Int) : zSt × Int := if wd ws w then (if i < -1 then sNo P R ws tx hs kp ls rf 4 else sOk P R ws tx hs kp ls rf (if i = -1 then ((gw ws w).length : Int) else rget (gw ws w) i)) else sNo P R ws tx hs kp ls rf 1
def opDrop (P R : Nat → Nat) (ws : List (List Int)) (tx : List Int) (hs : List zLw) (kp : zKp) (ls : Nat → Option (List Int)) (rf : Nat → Int) : zSt × Int := if ws = [] then sNo P R ws tx hs kp ls rf 3 else sOk P R ws.dropLast tx hs kp ls rf ((ws.length : Int) - 1)
def opAlike (P R : Nat → Nat) (ws : List (List Int)) (tx : List Int) (hs : List zLw) (kp : zKp) (ls : Nat → Option (List Int)) (rf : Nat → Int) (a b : Int) : zSt × Int := if wd ws a ∧ wd ws b then sOk P R ws tx hs kp ls rf (if lw P R false (gw ws a) = lw P R false (gw ws b) then 1 else 0) else sNo P R ws tx hs kp ls rf 1
def opBlocks (P R : Nat → Nat) (ws : List (List Int)) (tx : List Int) (hs : List zLw) (kp : zKp) (ls : Nat → Option (List Int)) (rf : Nat → Int) (w k : Int) : zSt × Int := if wd ws w then (if k < -1 then sNo P R ws tx hs kp ls rf 4 else if k = -1 then sOk P R ws tx hs kp ls rf ((blks P (gw ws w).length (gw ws w)).length : Int) else sOk P R ws tx hs kp ls rf (if k < (blks P (gw ws w).length (gw ws w)).length then (blks P (gw ws w).length (gw ws w)).getD k.toNat 0 else 0)) else sNo P R ws tx hs kp ls rf 1
def opLeast (P R : Nat → Nat) (ws : List (List Int)) (tx : List Int) (hs : List zLw) (kp : zKp) (ls : Nat → Option (List Int)) (rf : Nat → Int) (w i which : Int) : zSt × Int := if wd ws w then (if i < 0 then sNo P R ws tx hs kp ls rf 4 else if which = 0 ∨ which = 1 then sOk P R ws tx hs kp ls rf (rget (lw P R (decide (which = 1)) (gw ws w)) i) else sNo P R ws tx hs kp ls rf 2) else sNo P R ws tx hs kp ls rf 1
def opSeen (P R : Nat → Nat) (ws : List (List Int)) (tx : List Int) (hs : List zLw) (kp : zKp) (ls : Nat → Option (List Int)) (rf : Nat → Int) (w a b i : Int) : zSt × Int := if wd ws w ∧ lt6 a ∧ lt6 b then (if i < 0 then sNo P R ws tx hs kp ls rf 4 else sOk P R ws tx hs kp ls rf (rget ((gw ws w).filter (fun c => decide (c = a ∨ c = b))) i)) else sNo P R ws tx hs kp ls rf 1
def opBegins (P R : Nat → Nat) (ws : List (List Int)) (tx : List Int) (hs : List zLw) (kp : zKp) (ls : Nat → Option (List Int)) (rf : Nat → Int) (v u i : Int) : zSt × Int := if wd ws v ∧ wd ws u then (if i < -1 then sNo P R ws tx hs kp ls rf 4 else match tks (psL P) (gw ws u) (gw ws v) with
  | none => sOk P R ws tx hs kp ls rf (if i = -1 then 0 else -9)
  | some x => sOk P R ws tx hs kp ls rf (if i = -1 then 1 else rget (lw P R false x) i)) else sNo P R ws tx hs kp ls rf 1
def opCommon (P R : Nat → Nat) (ws : List (List Int)) (tx : List Int) (hs : List zLw) (kp : zKp) (ls : Nat → Option (List Int)) (rf : Nat → Int) (u v i : Int) : zSt × Int := if wd ws u ∧ wd ws v then (if i < -1 then sNo P R ws tx hs kp ls rf 4 else sOk P R ws tx hs kp ls rf (if i = -1 then ((cmn P (gw ws u).length (gw ws u) (gw ws v)).length : Int) else rget (lw P R false (cmn P (gw ws u).length (gw ws u) (gw ws v))) i)) else sNo P R ws tx hs kp ls rf 1
def opProduct (P R : Nat → Nat) (ws : List (List Int)) (tx : List Int) (hs : List zLw) (kp : zKp) (ls : Nat → Option (List Int)) (rf : Nat → Int) (u v : Int) : zSt × Int := if wd ws u ∧ wd ws v then (if 14 < (gw ws u).length + (gw ws v).length ∨ 5 ≤ ws.length then sNo P R ws tx hs kp ls rf 6 else sOk P R (ws ++ [gw ws u ++ gw ws v]) tx hs kp ls rf ws.length) else sNo P R ws tx hs kp ls rf 1
def opPower (P R : Nat → Nat) (ws : List (List Int)) (tx : List Int) (hs : List zLw) (kp : zKp) (ls : Nat → Option (List Int)) (rf : Nat → Int) (u n : Int) : zSt × Int := if wd ws u then (if n < 0 then sNo P R ws tx hs kp ls rf 4 else if 14 < ((gw ws u).length : Int) * n ∨ 5 ≤ ws.length then sNo P R ws tx hs kp ls rf 6 else sOk P R (ws ++ [rpt n.toNat (gw ws u)]) tx hs kp ls rf ws.length) else sNo P R ws tx hs kp ls rf 1
def opChanges (P R : Nat → Nat) (ws : List (List Int)) (tx : List Int) (hs : List zLw) (kp : zKp) (ls : Nat → Option (List Int)) (rf : Nat → Int) (u v : Int) : zSt × Int := if wd ws u ∧ wd ws v then sOk P R ws tx hs kp ls rf (if lw P R false (gw ws u ++ gw ws v) = lw P R false (gw ws v ++ gw ws u) then 1 else 0) else sNo P R ws tx hs kp ls rf 1
noncomputable def rtN (P R : Nat → Nat) (u : List Int) : Nat := Classical.epsilon (rtK P R u)
theorem rtK_one {P R : Nat → Nat} {u : List Int} {k j : Nat} (hk : rtK P R u k) (hj : rtK P R u j) : k = j := by
  obtain ⟨a1, a2, a3, a4⟩ := hk
  obtain ⟨b1, b2, b3, b4⟩ := hj
  rcases Nat.lt_trichotomy k j with q | q | q
  · exact absurd (b3 (by omega)) (a4 j q b2)
  · exact q
  · exact absurd (a3 (by omega)) (b4 k q a2)
theorem rtN_is {P R : Nat → Nat} {u : List Int} {k : Nat} (hk : rtK P R u k) : rtN P R u = k := rtK_one (Classical.epsilon_spec (p := rtK P R u) ⟨k, hk⟩) hk
noncomputable def opRoot (P R : Nat → Nat) (ws : List (List Int)) (tx : List Int) (hs : List zLw) (kp : zKp) (ls : Nat → Option (List Int)) (rf : Nat → Int) (w i : Int) : zSt × Int := if wd ws w then (if i < -1 then sNo P R ws tx hs kp ls rf 4 else if gw ws w = [] then sNo P R ws tx hs kp ls rf 3 else sOk P R ws tx hs kp ls rf (if i = -1 then (rtN P R (gw ws w) : Int) else rget (lw P R false (shr (gw ws w) (rtN P R (gw ws w)))) i)) else sNo P R ws tx hs kp ls rf 1
def opParts (P R : Nat → Nat) (ws : List (List Int)) (tx : List Int) (hs : List zLw) (kp : zKp) (ls : Nat → Option (List Int)) (rf : Nat → Int) (w a : Int) : zSt × Int := if wd ws w ∧ -1 ≤ a ∧ a < 6 then (if a = -1 then sOk P R ws tx hs kp ls rf ((hmp P (lbits (gw ws w)) 6).2 : Int) else sOk P R ws tx hs kp ls rf (prs P (lbits (gw ws w)) 6 (if (lbits (gw ws w)).testBit a.toNat then 2 ^ a.toNat else 0) : Int)) else sNo P R ws tx hs kp ls rf 1
def opFree (P R : Nat → Nat) (ws : List (List Int)) (tx : List Int) (hs : List zLw) (kp : zKp) (ls : Nat → Option (List Int)) (rf : Nat → Int) : zSt × Int := sOk P R ws tx hs kp ls rf (cnt (frB P) 64 : Int)
def opLots (P R : Nat → Nat) (ws : List (List Int)) (tx : List Int) (hs : List zLw) (kp : zKp) (ls : Nat → Option (List Int)) (rf : Nat → Int) (w n z what : Int) : zSt × Int := if wd ws w then (if n < 1 then sNo P R ws tx hs kp ls rf 4 else if 60 < n then sNo P R ws tx hs kp ls rf 6 else if what = 0 ∨ what = 1 then (if (gw ws w).length < 2 then sNo P R ws tx hs kp ls rf 3 else if what = 0 then sOk P R ws tx hs kp ls rf ((lots P n.toNat (gw ws w, z, 0)).2.2 : Int) else sOk P R ws tx hs kp ls rf (hmO (lots P n.toNat (gw ws w, z, 0)).1 (gw ws w) : Int)) else sNo P R ws tx hs kp ls rf 2) else sNo P R ws tx hs kp ls rf 1
abbrev lt3 (a : Int) : Prop := 0 ≤ a ∧ a < 3
def opList (P R : Nat → Nat) (ws : List (List Int)) (tx : List Int) (hs : List zLw) (kp : zKp) (ls : Nat → Option (List Int)) (rf : Nat → Int) (l n : Int) : zSt × Int := if lt3 l then (if 40 < n then sNo P R ws tx hs kp ls rf 6 else if n < 0 then sOk P R ws tx hs kp ls rf (-14) else sOk P R ws tx hs kp (lsSet ls l.toNat (List.replicate n.toNat 0)) rf 1) else sNo P R ws tx hs kp ls rf 1
def opPut (P R : Nat → Nat) (ws : List (List Int)) (tx : List Int) (hs : List zLw) (kp : zKp) (ls : Nat → Option (List Int)) (rf : Nat → Int) (l i v : Int) : zSt × Int := if lt3 l then (match ls l.toNat with
  | none => sOk P R ws tx hs kp ls rf (-11)
  | some xs => if 0 ≤ i ∧ i < xs.length then sOk P R ws tx hs kp (lsSet ls l.toNat (xs.set i.toNat v)) rf 1 else sOk P R ws tx hs kp ls rf (-13)) else sNo P R ws tx hs kp ls rf 1
def opLook (P R : Nat → Nat) (ws : List (List Int)) (tx : List Int) (hs : List zLw) (kp : zKp) (ls : Nat → Option (List Int)) (rf : Nat → Int) (l i : Int) : zSt × Int := if lt3 l then (match ls l.toNat with
  | none => sOk P R ws tx hs kp ls rf 4000000000000000011
  | some xs => if 0 ≤ i ∧ i < xs.length then sOk P R ws tx hs kp ls rf (xs.getD i.toNat 0) else sOk P R ws tx hs kp ls rf 4000000000000000013) else sNl P R ws tx hs kp ls rf 1
def opFrom (P R : Nat → Nat) (ws : List (List Int)) (tx : List Int) (hs : List zLw) (kp : zKp) (ls : Nat → Option (List Int)) (rf : Nat → Int) (l i n : Int) : zSt × Int := if lt3 l then (if n < 0 then sNo P R ws tx hs kp ls rf 4 else if 14 < n ∨ 5 ≤ ws.length then sNo P R ws tx hs kp ls rf 6 else match ls l.toNat with
  | none => sOk P R ws tx hs kp ls rf (-11)
  | some xs => if rhas xs.length i n then (if ((xs.drop i.toNat).take n.toNat).all (fun a => decide (0 ≤ a ∧ a < 6)) then sOk P R (ws ++ [(xs.drop i.toNat).take n.toNat]) tx hs kp ls rf ws.length else sNo P R ws tx hs kp ls rf 3) else sOk P R ws tx hs kp ls rf (-13)) else sNo P R ws tx hs kp ls rf 1
def opLays (P R : Nat → Nat) (ws : List (List Int)) (tx : List Int) (hs : List zLw) (kp : zKp) (ls : Nat → Option (List Int)) (rf : Nat → Int) (l i w : Int) : zSt × Int := if lt3 l ∧ wd ws w then (match ls l.toNat with
  | none => sOk P R ws tx hs kp ls rf (-11)
  | some xs => if rhas xs.length i (gw ws w).length then sOk P R ws tx hs kp (lsSet ls l.toNat (if lw P R false (gw ws w) = [] then xs else lay xs i.toNat (lw P R false (gw ws w)))) rf (gw ws w).length else sOk P R ws tx hs kp ls rf (-13)) else sNo P R ws tx hs kp ls rf 1
def opJudge (P R : Nat → Nat) (ws : List (List Int)) (tx : List Int) (hs : List zLw) (kp : zKp) (ls : Nat → Option (List Int)) (rf : Nat → Int) (l w : Int) : zSt × Int := if lt3 l ∧ wd ws w then (match ls l.toNat with
  | none => sOk P R ws tx hs kp ls rf (-11)
  | some xs => sOk P R ws tx hs kp ls rf (fstO xs (gw ws w) 0)) else sNo P R ws tx hs kp ls rf 1
def opUndo (P R : Nat → Nat) (ws : List (List Int)) (tx : List Int) (hs : List zLw) (kp : zKp) (ls : Nat → Option (List Int)) (rf : Nat → Int) : zSt × Int := match hs with
  | [] => sNo P R ws tx [] kp ls rf 3
  | p :: hs => sOk p.1 p.2 ws tx hs kp ls rf hs.length
def opImage (P R : Nat → Nat) (ws : List (List Int)) (tx : List Int) (hs : List zLw) (kp : zKp) (ls : Nat → Option (List Int)) (rf : Nat → Int) : zSt × Int := sOk P R ws tx hs (some (P, R, ws)) ls rf ws.length
def opOn (P R : Nat → Nat) (ws : List (List Int)) (tx : List Int) (hs : List zLw) (kp : zKp) (ls : Nat → Option (List Int)) (rf : Nat → Int) : zSt × Int := match kp with
  | none => sNo P R ws tx hs none ls rf 3
  | some k => sOk k.1 k.2.1 k.2.2 tx [] (some k) ls rf k.2.2.length
def opCount (P R : Nat → Nat) (ws : List (List Int)) (tx : List Int) (hs : List zLw) (kp : zKp) (ls : Nat → Option (List Int)) (rf : Nat → Int) (what : Int) : zSt × Int := sOk P R ws tx hs kp ls rf (if 11 ≤ what ∧ what ≤ 16 then rf (what - 11).toNat else if what = 0 then (ws.length : Int) else if what = 1 then (tx.length : Int) else if what = 2 then ((ws.map List.length).sum : Int) else if what = 3 then (nPairs P : Int) else if what = 4 then (hs.length : Int) else -9)
section OP
variable {d : Nat} {M M' L : zM} {Q : Int → zW → Prop} {P R : Nat → Nat} {ws : List (List Int)} {tx : List Int} {hs : List zLw} {kp : zKp} {ls : Nat → Option (List Int)} {rf : Nat → Int}
theorem iC.w {w : Int} (hI : iC M P R ws tx hs kp ls rf) (g : wd ws w) : zRow (7 + 4 + 2 * w.toNat) ∧ rIs M (7 + 4 + 2 * w.toNat) (gw ws w) ∧ isW (gw ws w) ∧ (gw ws w).length ≤ 14 ∧ 7 + 4 + 2 * w.toNat + 1 < 64 := by
  have h5 := hI.s.2.1
  obtain ⟨a1, a2⟩ := hI.s.2.2 w.toNat (by omega)
  exact ⟨(zShf_7.2.2.2.2.2.2 w.toNat (by omega)).2.1, a1, a2, sS_len zShf_7 hI.s (by omega), by omega⟩
theorem iC.w5 (hI : iC M P R ws tx hs kp ls rf) : ws.length ≤ 5 := hI.s.2.1
theorem iM.w {w : Int} (hI : iM M P R ws tx hs kp ls rf) (g : wd ws w) : M 115 w.toNat = ((gw ws w).length : Int) ∧ (gw ws w).length ≤ 14 ∧ isW (gw ws w) ∧ (∀ j, j < (gw ws w).length → M 116 (14 * w.toNat + j) = (gw ws w).getD j 0) ∧ w < 5 := by
  have h5 := hI.s.2.1
  obtain ⟨a1, a2, a3, a4⟩ := hI.s.2.2 w.toNat (by omega)
  exact ⟨a1, a2, a3, a4, by omega⟩
theorem e_sh_rowI {w : Int} (hI : iC M P R ws tx hs kp ls rf) (g : wd ws w) (h : Q ((7 + 4 + 2 * w.toNat : Nat) : Int) (SH, M, L)) : zEv (d + 1) m_sh_row [zR 7, zI w] (SH, M, L) Q := e_sh_row zShf_7 hI.s g h
theorem c_lt_at {w i : Int} (hI : iC M P R ws tx hs kp ls rf) (h : ∀ M1 L1, jC M1 (opAt P R ws tx hs kp ls rf w i).1 → aM M M1 → Q (opAt P R ws tx hs kp ls rf w i).2 (SH, M1, L1)) : zEv (d + 9) m_lt_at [zR 0, zI w, zI i] (SH, M, L) Q := by
  unfold opAt at h
  refine b_lt_at ?_
  (first | refine g_lt_at_0 ?_ | refine g_lt_at_5 ?_ | refine g_lt_at_13 ?_ | refine g_lt_at_25 ?_ | refine g_lt_at_34 (by assumption) ?_ | refine g_lt_at_38 ?_)
  refine e_lt_noWord hI.s ?_
  (first | refine g_lt_at_0 ?_ | refine g_lt_at_5 ?_ | refine g_lt_at_13 ?_ | refine g_lt_at_25 ?_ | refine g_lt_at_34 (by assumption) ?_ | refine g_lt_at_38 ?_)
  by_cases g : wd ws w
  · obtain ⟨za, ru, hw, h14, h64⟩ := hI.w g
    rw [if_pos g] at h ⊢
    rw [if_pos rfl]
    by_cases g2 : i < -1
    · rw [if_pos g2] at h ⊢
      (refine e_lt_no (k := 4) hI (by omega) (fun M1 I f => ?_); (first | refine g_lt_at_0 ?_ | refine g_lt_at_5 ?_ | refine g_lt_at_13 ?_ | refine g_lt_at_25 ?_ | refine g_lt_at_34 (by assumption) ?_ | refine g_lt_at_38 ?_); exact h M1 L I f)
    · rw [if_neg g2] at h ⊢
      refine e_sh_rowI hI g ?_
      rw [Int.toNat_natCast]
      (first | refine g_lt_at_0 ?_ | refine g_lt_at_5 ?_ | refine g_lt_at_13 ?_ | refine g_lt_at_25 ?_ | refine g_lt_at_34 (by assumption) ?_ | refine g_lt_at_38 ?_)
      refine e_lt_sizeOrCell za ru ?_
      (first | refine g_lt_at_0 ?_ | refine g_lt_at_5 ?_ | refine g_lt_at_13 ?_ | refine g_lt_at_25 ?_ | refine g_lt_at_34 (by assumption) ?_ | refine g_lt_at_38 ?_)
      exact h M L hI aM.r0
  · rw [if_neg g] at h ⊢
    rw [if_neg (by decide)]
    (refine e_lt_no (k := 1) hI (by omega) (fun M1 I f => ?_); (first | refine g_lt_at_0 ?_ | refine g_lt_at_5 ?_ | refine g_lt_at_13 ?_ | refine g_lt_at_25 ?_ | refine g_lt_at_34 (by assumption) ?_ | refine g_lt_at_38 ?_); exact h M1 L I f)
theorem c_lt_of {a what : Int} (hI : iC M P R ws tx hs kp ls rf) (h : ∀ M1 L1, jC M1 (opOf P R ws tx hs kp ls rf a what).1 → aM M M1 → Q (opOf P R ws tx hs kp ls rf a what).2 (SH, M1, L1)) : zEv (d + 9) m_lt_of [zR 0, zI a, zI what] (SH, M, L) Q := by
  unfold opOf at h
  refine b_lt_of ?_
  (first | refine g_lt_of_0 ?_ | refine g_lt_of_4 ?_ | refine g_lt_of_12 ?_ | refine g_lt_of_17 ?_ | refine g_lt_of_26 ?_ | refine g_lt_of_39 ?_ | refine g_lt_of_50 ?_)
  refine e_lt_noLetter ?_
  (first | refine g_lt_of_0 ?_ | refine g_lt_of_4 ?_ | refine g_lt_of_12 ?_ | refine g_lt_of_17 ?_ | refine g_lt_of_26 ?_ | refine g_lt_of_39 ?_ | refine g_lt_of_50 ?_)
  by_cases g : lt6 a
  · rw [if_pos g] at h ⊢
    rw [if_pos rfl]
    refine e_lt_noSuch ?_
    (first | refine g_lt_of_0 ?_ | refine g_lt_of_4 ?_ | refine g_lt_of_12 ?_ | refine g_lt_of_17 ?_ | refine g_lt_of_26 ?_ | refine g_lt_of_39 ?_ | refine g_lt_of_50 ?_)
    by_cases g2 : what = 0
    · rw [if_pos g2] at h
      simp (disch := omega) only [zck_t, if_pos, if_neg, if_true, if_false, zwr_id, Int.toNat_natCast]
      refine e_la_rankOf zLaw_1 hI.l g ?_
      (first | refine g_lt_of_0 ?_ | refine g_lt_of_4 ?_ | refine g_lt_of_12 ?_ | refine g_lt_of_17 ?_ | refine g_lt_of_26 ?_ | refine g_lt_of_39 ?_ | refine g_lt_of_50 ?_)
      (first | refine g_lt_of_0 ?_ | refine g_lt_of_4 ?_ | refine g_lt_of_12 ?_ | refine g_lt_of_17 ?_ | refine g_lt_of_26 ?_ | refine g_lt_of_39 ?_ | refine g_lt_of_50 ?_)
      exact h M L hI aM.r0
    · rw [if_neg g2] at h
      by_cases g3 : what = 1
      · rw [if_pos g3] at h
        simp (disch := omega) only [zck_t, if_pos, if_neg, if_true, if_false, zwr_id, Int.toNat_natCast]
        refine e_la_passedBy zLaw_1 hI.l g ?_
        (first | refine g_lt_of_0 ?_ | refine g_lt_of_4 ?_ | refine g_lt_of_12 ?_ | refine g_lt_of_17 ?_ | refine g_lt_of_26 ?_ | refine g_lt_of_39 ?_ | refine g_lt_of_50 ?_)
        exact h M L hI aM.r0
      · rw [if_neg g3] at h
        simp (disch := omega) only [zck_t, if_pos, if_neg, if_true, if_false, zwr_id, Int.toNat_natCast]
        (refine e_lt_no (k := 2) hI (by omega) (fun M1 I f => ?_); (first | refine g_lt_of_0 ?_ | refine g_lt_of_4 ?_ | refine g_lt_of_12 ?_ | refine g_lt_of_17 ?_ | refine g_lt_of_26 ?_ | refine g_lt_of_39 ?_ | refine g_lt_of_50 ?_); exact h M1 L I f)
  · rw [if_neg g] at h ⊢
    rw [if_neg (by decide)]
    (refine e_lt_no (k := 1) hI (by omega) (fun M1 I f => ?_); (first | refine g_lt_of_0 ?_ | refine g_lt_of_4 ?_ | refine g_lt_of_12 ?_ | refine g_lt_of_17 ?_ | refine g_lt_of_26 ?_ | refine g_lt_of_39 ?_ | refine g_lt_of_50 ?_); exact h M1 L I f)
theorem tX.snoc {c : Int} (h : tX M tx) (hl : tx.length < 72) (h' : rIs M' 64 (tx ++ [c])) (hc : 0 ≤ c ∧ c ≤ 255) : tX M' (tx ++ [c]) := ⟨h', fun x hx => by
  rcases List.mem_append.mp hx with q | q
  · exact h.2 x q
  · rw [List.mem_singleton.mp q]; exact hc⟩
/-- the other parts, when the letters change -/
theorem iC.xt {S : List Nat} {tx' : List Int} (hI : iC M P R ws tx hs kp ls rf) (hf : cFr S M M') (hS : ∀ k ∈ cKeep, k ≠ 64 → k ≠ 65 → k ∉ S) (ht : tX M' tx') : iC M' P R ws tx' hs kp ls rf := by
  have g : ∀ k, k ∈ cKeep → k ≠ 64 → k ≠ 65 → M' k = M k := fun k h1 h2 h3 => hf k (hS k h1 h2 h3)
  refine ⟨fun c hc => ?_, hI.lo, hI.s.of (fun k hk => ?_), ht, hI.h.of (fun k hk => ?_), hI.k.of (fun k hk => ?_), hI.n.of (fun k hk => ?_), fun k hk => ?_, hI.c.of (fun k hk => ?_)⟩
  · rw [g (1 + 1) (by decide) (by decide) (by decide), g (1 + 2) (by decide) (by decide) (by decide)]; exact hI.l c hc
  · have : ∀ k ∈ cS 7, k ∈ cKeep ∧ k ≠ 64 ∧ k ≠ 65 := by decide
    exact g k (this k hk).1 (this k hk).2.1 (this k hk).2.2
  · have : ∀ k ∈ cH, k ∈ cKeep ∧ k ≠ 64 ∧ k ≠ 65 := by decide
    exact g k (this k hk).1 (this k hk).2.1 (this k hk).2.2
  · have : ∀ k ∈ cK, k ∈ cKeep ∧ k ≠ 64 ∧ k ≠ 65 := by decide
    exact g k (this k hk).1 (this k hk).2.1 (this k hk).2.2
  · have : ∀ k ∈ [72, 75, 76, 77, 78, 79, 80], k ∈ cKeep ∧ k ≠ 64 ∧ k ≠ 65 := by decide
    exact g k (this k hk).1 (this k hk).2.1 (this k hk).2.2
  · rw [g 81 (by decide) (by decide) (by decide)]; exact hI.f k hk
  · have : ∀ k ∈ [97, 99, 100, 105, 106, 107], k ∈ cKeep ∧ k ≠ 64 ∧ k ≠ 65 := by decide
    exact g k (this k hk).1 (this k hk).2.1 (this k hk).2.2
/-- and when the words change -/
theorem iC.sx {S : List Nat} {ws' : List (List Int)} (hI : iC M P R ws tx hs kp ls rf) (hf : cFr S M M') (hS : ∀ k ∈ cKeep, k ∉ cS 7 → k ∉ S) (ht : sS M' 7 ws') : iC M' P R ws' tx hs kp ls rf := by
  have g : ∀ k, k ∈ cKeep → k ∉ cS 7 → M' k = M k := fun k h1 h2 => hf k (hS k h1 h2)
  refine ⟨fun c hc => ?_, hI.lo, ht, hI.t.of (fun k hk => ?_), hI.h.of (fun k hk => ?_), hI.k.of (fun k hk => ?_), hI.n.of (fun k hk => ?_), fun k hk => ?_, hI.c.of (fun k hk => ?_)⟩
  · rw [g (1 + 1) (by decide) (by decide), g (1 + 2) (by decide) (by decide)]; exact hI.l c hc
  · have : ∀ k ∈ [64, 65], k ∈ cKeep ∧ k ∉ cS 7 := by decide
    exact g k (this k hk).1 (this k hk).2
  · have : ∀ k ∈ cH, k ∈ cKeep ∧ k ∉ cS 7 := by decide
    exact g k (this k hk).1 (this k hk).2
  · have : ∀ k ∈ cK, k ∈ cKeep ∧ k ∉ cS 7 := by decide
    exact g k (this k hk).1 (this k hk).2
  · have : ∀ k ∈ [72, 75, 76, 77, 78, 79, 80], k ∈ cKeep ∧ k ∉ cS 7 := by decide
    exact g k (this k hk).1 (this k hk).2
  · rw [g 81 (by decide) (by decide)]; exact hI.f k hk
  · have : ∀ k ∈ [97, 99, 100, 105, 106, 107], k ∈ cKeep ∧ k ∉ cS 7 := by decide
    exact g k (this k hk).1 (this k hk).2
/-- and when the lists change -/
theorem iC.nx {S : List Nat} {ls' : Nat → Option (List Int)} (hI : iC M P R ws tx hs kp ls rf) (hf : cFr S M M') (hS : ∀ k ∈ cKeep, k ∉ [72, 75, 76, 77, 78, 79, 80] → k ∉ S) (ht : nC M' ls') : iC M' P R ws tx hs kp ls' rf := by
  have g : ∀ k, k ∈ cKeep → k ∉ [72, 75, 76, 77, 78, 79, 80] → M' k = M k := fun k h1 h2 => hf k (hS k h1 h2)
  refine ⟨fun c hc => ?_, hI.lo, hI.s.of (fun k hk => ?_), hI.t.of (fun k hk => ?_), hI.h.of (fun k hk => ?_), hI.k.of (fun k hk => ?_), ht, fun k hk => ?_, hI.c.of (fun k hk => ?_)⟩
  · rw [g (1 + 1) (by decide) (by decide), g (1 + 2) (by decide) (by decide)]; exact hI.l c hc
  · have : ∀ k ∈ cS 7, k ∈ cKeep ∧ k ∉ [72, 75, 76, 77, 78, 79, 80] := by decide
    exact g k (this k hk).1 (this k hk).2
  · have : ∀ k ∈ [64, 65], k ∈ cKeep ∧ k ∉ [72, 75, 76, 77, 78, 79, 80] := by decide
    exact g k (this k hk).1 (this k hk).2
  · have : ∀ k ∈ cH, k ∈ cKeep ∧ k ∉ [72, 75, 76, 77, 78, 79, 80] := by decide
    exact g k (this k hk).1 (this k hk).2
  · have : ∀ k ∈ cK, k ∈ cKeep ∧ k ∉ [72, 75, 76, 77, 78, 79, 80] := by decide
    exact g k (this k hk).1 (this k hk).2
  · rw [g 81 (by decide) (by decide)]; exact hI.f k hk
  · have : ∀ k ∈ [97, 99, 100, 105, 106, 107], k ∈ cKeep ∧ k ∉ [72, 75, 76, 77, 78, 79, 80] := by decide
    exact g k (this k hk).1 (this k hk).2
/-- and when the laws and the history change -/
theorem iC.lx {S : List Nat} {P' R' : Nat → Nat} {hs' : List zLw} (hI : iC M P R ws tx hs kp ls rf) (hf : cFr S M M') (hS : ∀ k ∈ cKeep, k ∉ 2 :: 3 :: cH → k ∉ S) (h1 : lIs M' 1 P' R') (h2 : lOk P' R') (h3 : hC M' hs') : iC M' P' R' ws tx hs' kp ls rf := by
  have g : ∀ k, k ∈ cKeep → k ∉ 2 :: 3 :: cH → M' k = M k := fun k h1 h2 => hf k (hS k h1 h2)
  refine ⟨h1, h2, hI.s.of (fun k hk => ?_), hI.t.of (fun k hk => ?_), h3, hI.k.of (fun k hk => ?_), hI.n.of (fun k hk => ?_), fun k hk => ?_, hI.c.of (fun k hk => ?_)⟩
  · have : ∀ k ∈ cS 7, k ∈ cKeep ∧ k ∉ 2 :: 3 :: cH := by decide
    exact g k (this k hk).1 (this k hk).2
  · have : ∀ k ∈ [64, 65], k ∈ cKeep ∧ k ∉ 2 :: 3 :: cH := by decide
    exact g k (this k hk).1 (this k hk).2
  · have : ∀ k ∈ cK, k ∈ cKeep ∧ k ∉ 2 :: 3 :: cH := by decide
    exact g k (this k hk).1 (this k hk).2
  · have : ∀ k ∈ [72, 75, 76, 77, 78, 79, 80], k ∈ cKeep ∧ k ∉ 2 :: 3 :: cH := by decide
    exact g k (this k hk).1 (this k hk).2
  · rw [g 81 (by decide) (by decide)]; exact hI.f k hk
  · have : ∀ k ∈ [97, 99, 100, 105, 106, 107], k ∈ cKeep ∧ k ∉ 2 :: 3 :: cH := by decide
    exact g k (this k hk).1 (this k hk).2
end OP
