/-! words told in letters -/
def ps15 (w : List Int) (a : Int) : List Int := if w.length < 15 then w ++ [a] else w
def tmR (w : List Int) (s len : Nat) : Nat → List Int
  | 0 => w
  | j + 1 => tmR w s len j ++ ((tmR w s len j).drop s).take (min len (15 - (tmR w s len j).length))
def tmS (w : List Int) (s n : Nat) : List Int := if n = 0 then w.take s else tmR w s (w.length - s) (n - 1)
/-- what is told, where brackets were opened, where the last item began -/
abbrev zPs : Type := List Int × List Nat × Option Nat
def pstep (c : Int) (S : zPs) : Option zPs :=
  if ltr c then some (ps15 S.1 (c - 97), S.2.1, some S.1.length)
  else if 48 ≤ c ∧ c ≤ 57 then (match S.2.2 with
    | none => none
    | some s => some (tmS S.1 s (c - 48).toNat, S.2.1, none))
  else if c = 40 then (if S.2.1.length < 5 then some (S.1, S.1.length :: S.2.1, none) else none)
  else if c = 41 then (match S.2.1 with
    | [] => none
    | s :: st => some (S.1, st, some s))
  else none
def wdA : List Int → Nat → zPs → Int ⊕ List Int
  | [], k, S => if S.2.1 = [] then Sum.inr S.1 else Sum.inl (-1000 - (k : Int))
  | c :: t, k, S => match pstep c S with
    | none => Sum.inl (-1000 - (k : Int))
    | some S' => wdA t (k + 1) S'
theorem wdA_some {c : Int} {t : List Int} {k : Nat} {S S' : zPs} (h : pstep c S = some S') : wdA (c :: t) k S = wdA t (k + 1) S' := by
  show (match pstep c S with
    | none => Sum.inl (-1000 - (k : Int))
    | some S' => wdA t (k + 1) S') = _
  rw [h]
theorem wdA_none {c : Int} {t : List Int} {k : Nat} {S : zPs} (h : pstep c S = none) : wdA (c :: t) k S = Sum.inl (-1000 - (k : Int)) := by
  show (match pstep c S with
    | none => Sum.inl (-1000 - (k : Int))
    | some S' => wdA t (k + 1) S') = _
  rw [h]
def opWord (P R : Nat → Nat) (ws : List (List Int)) (tx : List Int) (hs : List zLw) (kp : zKp) (ls : Nat → Option (List Int)) (rf : Nat → Int) : zSt × Int := match wdA tx 0 ([], [], none) with
  | Sum.inl f => sOk P R ws [] hs kp ls rf f
  | Sum.inr w => if 14 < w.length ∨ 5 ≤ ws.length then sOk P R ws [] hs kp ls rf (-2000) else sOk P R (ws ++ [w]) [] hs kp ls rf ws.length
/-- in good order -/
def pOk (S : zPs) : Prop := isW S.1 ∧ S.1.length ≤ 15 ∧ S.2.1.length ≤ 5 ∧ S.2.1.Pairwise (fun a b => b ≤ a) ∧ (∀ s ∈ S.2.1, s ≤ S.1.length) ∧ ∀ s, S.2.2 = some s → s ≤ S.1.length ∧ ∀ t ∈ S.2.1, t ≤ s
theorem tmR_s {w : List Int} {s len j : Nat} : tmR w s len (j + 1) = tmR w s len j ++ ((tmR w s len j).drop s).take (min len (15 - (tmR w s len j).length)) := rfl
theorem tmR_ok {w : List Int} {s len : Nat} (hw : isW w) (hl : w.length ≤ 15) : ∀ j, isW (tmR w s len j) ∧ (tmR w s len j).length ≤ 15 ∧ w.length ≤ (tmR w s len j).length
  | 0 => ⟨hw, hl, Nat.le_refl _⟩
  | j + 1 => by
    obtain ⟨h1, h2, h3⟩ := tmR_ok (s := s) (len := len) hw hl j
    rw [tmR_s]
    refine ⟨fun a ha => ?_, ?_, ?_⟩
    · rcases List.mem_append.mp ha with q | q
      · exact h1 a q
      · exact h1 a (List.mem_of_mem_drop (List.mem_of_mem_take q))
    · rw [List.length_append, List.length_take]; omega
    · rw [List.length_append]; omega
theorem pstep_ok {c : Int} {S S' : zPs} (h : pOk S) (hs : pstep c S = some S') : pOk S' := by
  obtain ⟨h1, h2, h3, h4, h5, h6⟩ := h
  unfold pstep at hs
  split at hs
  · next g =>
    cases hs
    have hle : S.1.length ≤ (ps15 S.1 (c - 97)).length := by unfold ps15; split <;> simp
    refine ⟨?_, ?_, h3, h4, fun s hs => Nat.le_trans (h5 s hs) hle, fun s hs => ?_⟩
    · unfold ps15
      split
      · intro a ha
        rcases List.mem_append.mp ha with q | q
        · exact h1 a q
        · rw [List.mem_singleton.mp q]; omega
      · exact h1
    · unfold ps15
      split
      · rw [List.length_append, List.length_singleton]; omega
      · exact h2
    · cases hs
      exact ⟨hle, h5⟩
  · split at hs
    · split at hs
      · cases hs
      · next s hit =>
        cases hs
        obtain ⟨i1, i2⟩ := h6 s hit
        unfold tmS
        split
        · refine ⟨isW_take h1 s, by rw [List.length_take]; omega, h3, h4, fun t ht => ?_, fun t ht => by cases ht⟩
          rw [List.length_take]
          have := i2 t ht
          omega
        · obtain ⟨r1, r2, r3⟩ := tmR_ok (s := s) (len := S.1.length - s) h1 h2 ((c - 48).toNat - 1)
          exact ⟨r1, r2, h3, h4, fun t ht => Nat.le_trans (h5 t ht) r3, fun t ht => by cases ht⟩
    · split at hs
      · split at hs
        · next g =>
          cases hs
          exact ⟨h1, h2, by rw [List.length_cons]; omega, List.pairwise_cons.mpr ⟨h5, h4⟩, fun t ht => by
            rcases List.mem_cons.mp ht with q | q
            · rw [q]; exact Nat.le_refl _
            · exact h5 t q, fun t ht => by cases ht⟩
        · cases hs
      · split at hs
        · split at hs
          · cases hs
          · next s st hst =>
            cases hs
            rw [hst] at h3 h4 h5
            rw [List.length_cons] at h3
            exact ⟨h1, h2, by dsimp only; omega, (List.pairwise_cons.mp h4).2, fun t ht => h5 t (List.mem_cons_of_mem _ ht), fun t ht => by
              cases ht
              exact ⟨h5 s List.mem_cons_self, (List.pairwise_cons.mp h4).1⟩⟩
        · cases hs
/-- the parser's cells -/
def pC (M : zM) (S : zPs) : Prop := rIs M 67 S.1 ∧ M 66 2 = (S.2.1.length : Int) ∧ (∀ i, i < S.2.1.length → M 69 i = ((S.2.1.getD (S.2.1.length - 1 - i) 0 : Nat) : Int)) ∧ M 66 3 = (match S.2.2 with
  | none => -9
  | some s => (s : Int))
def cP : List Nat := [66, 67, 68, 69]
section WO
variable {d : Nat} {M M' L : zM} {Q : Int → zW → Prop} {P R : Nat → Nat} {ws : List (List Int)} {tx : List Int} {hs : List zLw} {kp : zKp} {ls : Nat → Option (List Int)} {rf : Nat → Int}
theorem zc67 : zln SH (67 + 1) = 15 := zl_68
theorem pa_times_loop {n : Int} {s len : Nat} {w : List Int} {M0 : zM} (hn9 : n ≤ 9) (hs : s ≤ w.length) (hlen : len = w.length - s) (hw : isW w) (hl : w.length ≤ 15) (h3 : M0 66 3 = (s : Int)) (h : ∀ M', rIs M' 67 (tmR w s len (n.toNat - 1)) → rFr M0 M' 67 → Q 1 (SH, zmu M' 66 3 (-9), L)) :
    ∀ (m j : Nat) (Mk : zM), (j : Int) + 1 + m = max n 1 → rIs Mk 67 (tmR w s len j) → rFr M0 Mk 67 → zEx (d + 3) m_pa_takeTimes zb0 Q 41 ([zR 66, zI n, zI (len : Int), zI ((j : Int) + 1)], [], SH, Mk, L) := by
  intro m
  induction m with
  | zero =>
    intro j Mk hj hu hf
    refine g_pa_takeTimes_41 ?_
    rw [if_neg (by omega)]
    rw [show n.toNat - 1 = j by omega] at h
    exact h Mk hu hf
  | succ m ih =>
    intro j Mk hj hu hf
    obtain ⟨r1, r2, r3⟩ := tmR_ok (s := s) (len := len) hw hl j
    refine g_pa_takeTimes_41 ?_
    rw [if_pos (by omega), hf 66 (by decide) (by decide), h3]
    refine e_ro_appendPiece zRow_67 zRow_67 hu hu (by unfold zr32; omega) (by unfold zr32; omega) (fun M1 g1 f1 => g_pa_takeTimes_62 ?_)
    rw [zwr_id (by omega) (by omega), show ((j : Int) + 1) = ((j + 1 : Nat) : Int) by omega]
    refine ih (j + 1) M1 (by omega) ?_ (hf.tr f1)
    have hh : rhas (tmR w s len j).length (s : Int) (len : Int) = true := by unfold rhas; exact decide_eq_true (by omega)
    rw [hh, if_pos rfl, zc67, Int.toNat_natCast, show (min (len : Int) (15 - ((tmR w s len j).length : Int))).toNat = min len (15 - (tmR w s len j).length) by omega] at g1
    rw [tmR_s]
    exact g1
theorem e_pa_takeTimes {S : zPs} {n : Int} (hp : pOk S) (hc : pC M S) (hn : 0 ≤ n ∧ n ≤ 9) (h0 : S.2.2 = none → Q 0 (SH, M, L)) (h1 : ∀ s, S.2.2 = some s → ∀ M', pC M' (tmS S.1 s n.toNat, S.2.1, none) → cFr cP M M' → Q 1 (SH, M', L)) : zEv (d + 3) m_pa_takeTimes [zR 66, zI n] (SH, M, L) Q := by
  obtain ⟨p1, p2, p3, p4, p5, p6⟩ := hp
  obtain ⟨c1, c2, c3, c4⟩ := hc
  refine b_pa_takeTimes (g_pa_takeTimes_0 ?_)
  cases hit : S.2.2 with
  | none =>
    rw [hit] at c4
    rw [if_pos c4]
    exact h0 hit
  | some s =>
    rw [hit] at c4
    have c4 : M 66 3 = (s : Int) := c4
    obtain ⟨s1, s2⟩ := p6 s hit
    rw [if_neg (by omega)]
    refine e_ro_size zRow_67 c1 (g_pa_takeTimes_18 ?_)
    rw [c4, zwr_id (by omega) (by omega), show ((S.1.length : Int) - (s : Int)) = ((S.1.length - s : Nat) : Int) by omega]
    have fin : ∀ (w' : List Int) (M' : zM), rIs M' 67 w' → rFr M M' 67 → pC (zmu M' 66 3 (-9)) (w', S.2.1, none) ∧ cFr cP M (zmu M' 66 3 (-9)) := fun w' M' g1 f1 => by
      refine ⟨⟨⟨?_, fun j hj => ?_, g1.2.2⟩, ?_, fun i hi => ?_, zmu_s⟩, fun k hk => ?_⟩
      · rw [zmu_k (by decide)]; exact g1.1
      · rw [zmu_kf (by decide)]; exact g1.2.1 j hj
      · rw [zmu_j (by decide), f1 66 (by decide) (by decide)]; exact c2
      · rw [zmu_kf (by decide), f1 69 (by decide) (by decide)]; exact c3 i hi
      · unfold cP at hk
        simp at hk
        rw [zmu_kf (by omega), f1 k (by omega) (by omega)]
    by_cases g : n = 0
    · rw [if_pos g]
      refine e_ro_shorten zRow_67 c1 (by omega) (fun M1 g1 f1 => g_pa_takeTimes_39 ?_)
      rw [Int.toNat_natCast] at g1
      refine g_pa_takeTimes_41 ?_
      rw [if_neg (by omega)]
      have := fin _ M1 g1 f1
      have e := h1 s hit (zmu M1 66 3 (-9))
      unfold tmS at e
      rw [if_pos (by omega)] at e
      exact e this.1 this.2
    · rw [if_neg g]
      refine g_pa_takeTimes_39 ?_
      refine pa_times_loop (d := d) hn.2 s1 rfl p1 p2 c4 (fun M1 g1 f1 => ?_) (n.toNat - 1) 0 M (by omega) c1 rFr.rf
      have := fin _ M1 g1 f1
      have e := h1 s hit (zmu M1 66 3 (-9))
      unfold tmS at e
      rw [if_neg (by omega)] at e
      exact e this.1 this.2
theorem getD_rev {st : List Nat} {i s : Nat} (hi : i < st.length) : (s :: st).getD ((s :: st).length - 1 - i) 0 = st.getD (st.length - 1 - i) 0 := by
  rw [List.length_cons, show st.length + 1 - 1 - i = (st.length - 1 - i) + 1 by omega, List.getD_cons_succ]
theorem e_pa_takeSign {S : zPs} {c : Int} (hp : pOk S) (hc : pC M S) (h255 : 0 ≤ c ∧ c ≤ 255) (h0 : pstep c S = none → ∀ M', cFr cP M M' → Q 0 (SH, M', L)) (h1 : ∀ S', pstep c S = some S' → ∀ M', pC M' S' → cFr cP M M' → Q 1 (SH, M', L)) : zEv (d + 4) m_pa_takeSign [zR 66, zI c] (SH, M, L) Q := by
  have hp0 := hp
  have hc0 := hc
  obtain ⟨p1, p2, p3, p4, p5, p6⟩ := hp
  obtain ⟨c1, c2, c3, c4⟩ := hc
  refine b_pa_takeSign (g_pa_takeSign_0 (e_pa_isLetter (g_pa_takeSign_4 ?_)))
  unfold pstep at h0 h1
  by_cases gl : ltr c
  · rw [if_pos gl] at h0 h1
    rw [if_pos gl, if_neg (by decide)]
    refine e_ro_size zRow_67 c1 (g_pa_takeSign_15 ?_)
    have u1 : rIs (zmu M 66 3 (S.1.length : Int)) 67 S.1 := ⟨by rw [zmu_k (by decide)]; exact c1.1, fun j hj => by rw [zmu_kf (by decide)]; exact c1.2.1 j hj, c1.2.2⟩
    rw [zwr_id (by omega) (by omega)]
    refine e_ro_add zRow_67 u1 (fun M1 g1 f1 => g_pa_takeSign_29 (h1 _ rfl M1 ⟨?_, ?_, fun i hi => ?_, ?_⟩ (fun k hk => ?_)))
    · unfold ps15
      rw [zc67] at g1
      by_cases q : S.1.length < 15
      · rw [if_pos (by omega)] at g1; rw [if_pos q]; exact g1
      · rw [if_neg (by omega)] at g1; rw [if_neg q]; exact g1
    · rw [f1 66 (by decide) (by decide), zmu_j (by decide)]; exact c2
    · rw [f1 69 (by decide) (by decide), zmu_kf (by decide)]; exact c3 i hi
    · rw [f1 66 (by decide) (by decide), zmu_s]
    · unfold cP at hk
      simp at hk
      rw [f1 k (by omega) (by omega), zmu_kf (by omega)]
  · rw [if_neg gl] at h0 h1
    rw [if_neg gl, if_pos rfl]
    by_cases gd : 48 ≤ c ∧ c ≤ 57
    · rw [if_pos gd] at h0 h1
      simp (disch := omega) only [zck_t, if_pos, if_neg, if_true, if_false, zwr_id, Int.toNat_natCast]
      refine e_pa_takeTimes (d := d) hp0 hc0 (by omega) (fun hn => g_pa_takeSign_51 ?_) (fun s hs M1 g1 f1 => g_pa_takeSign_51 ?_)
      · rw [hn] at h0
        exact h0 rfl M cFr.rf
      · rw [hs] at h1
        exact h1 _ rfl M1 g1 f1
    · rw [if_neg gd] at h0 h1
      have op : c = 40 → zEv (d + 3) m_pa_takeOpening [zR 66] (SH, M, L) (fun x w => zEx (d + 4) m_pa_takeSign zb0 Q 62 ([zR 66, zI c], [zI x], w)) := fun g => by
        rw [if_pos g] at h0 h1
        refine b_pa_takeOpening (g_pa_takeOpening_0 ?_)
        rw [c2]
        by_cases q : S.2.1.length < 5
        · rw [if_pos q] at h1
          rw [if_pos (by omega)]
          refine e_ro_size zRow_67 c1 (g_pa_takeOpening_25 ?_)
          have e2 : ∀ (j : Nat) (v : Int), zmu M 69 j v 66 2 = (S.2.1.length : Int) := fun j v => by rw [zmu_k (by decide), c2]
          rw [e2]
          simp (disch := omega) only [zck_t, if_pos, if_neg, if_true, if_false, zwr_id, Int.toNat_natCast]
          refine g_pa_takeSign_62 (h1 _ rfl _ ⟨⟨?_, fun j hj => ?_, c1.2.2⟩, ?_, fun i hi => ?_, zmu_s⟩ (fun k hk => ?_))
          · rw [zmu_k (by decide), zmu_k (by decide), zmu_k (by decide)]; exact c1.1
          · rw [zmu_kf (a := 67 + 1) (by decide), zmu_kf (a := 67 + 1) (by decide), zmu_kf (a := 67 + 1) (by decide)]; exact c1.2.1 j hj
          · rw [zmu_j (by decide), zmu_s, List.length_cons]; omega
          · rw [zmu_kf (a := 69) (by decide), zmu_kf (a := 69) (by decide)]
            by_cases z : i = S.2.1.length
            · rw [z, zmu_s, List.length_cons, show S.2.1.length + 1 - 1 - S.2.1.length = 0 by omega]; rfl
            · rw [List.length_cons] at hi
              rw [zmu_j z, getD_rev (by omega)]; exact c3 i (by omega)
          · unfold cP at hk
            simp at hk
            rw [zmu_kf (by omega), zmu_kf (by omega), zmu_kf (by omega)]
        · rw [if_neg q] at h0
          rw [if_neg (by omega)]
          exact g_pa_takeSign_62 (h0 rfl M cFr.rf)
      have cl : c ≠ 40 → c = 41 → zEv (d + 3) m_pa_takeClosing [zR 66] (SH, M, L) (fun x w => zEx (d + 4) m_pa_takeSign zb0 Q 73 ([zR 66, zI c], [zI x], w)) := fun g0 g => by
        rw [if_neg g0, if_pos g] at h0 h1
        refine b_pa_takeClosing (g_pa_takeClosing_0 ?_)
        rw [c2, zmu_s]
        cases hst : S.2.1 with
        | nil =>
          rw [hst] at h0
          exact zif_t rfl (g_pa_takeSign_73 (zif_t rfl (h0 rfl M cFr.rf)))
        | cons s st =>
          rw [hst] at h1 c2 c3 p3
          rw [List.length_cons] at p3 c2 ⊢
          rw [if_neg (by omega)]
          simp (disch := omega) only [zck_t, if_pos, if_neg, if_true, if_false, zwr_id, Int.toNat_natCast]
          rw [show (((st.length + 1 : Nat) : Int) - 1) = (st.length : Int) by omega, Int.toNat_natCast, zmu_kf (a := 69) (by decide), c3 st.length (by rw [List.length_cons]; omega), List.length_cons, show st.length + 1 - 1 - st.length = 0 by omega, List.getD_cons_zero]
          refine g_pa_takeSign_73 (zif_f (by decide) (h1 _ rfl _ ⟨⟨?_, fun j hj => ?_, c1.2.2⟩, ?_, fun i hi => ?_, zmu_s⟩ (fun k hk => ?_)))
          · rw [zmu_k (by decide), zmu_k (by decide)]; exact c1.1
          · rw [zmu_kf (a := 67 + 1) (by decide), zmu_kf (a := 67 + 1) (by decide)]; exact c1.2.1 j hj
          · rw [zmu_j (by decide), zmu_s]
          · rw [zmu_kf (a := 69) (by decide), zmu_kf (a := 69) (by decide), c3 i (by rw [List.length_cons]; dsimp only at hi; omega), getD_rev (by exact hi)]
          · unfold cP at hk
            simp at hk
            rw [zmu_kf (by omega), zmu_kf (by omega)]
      have bad : c ≠ 40 → c ≠ 41 → Q 0 (SH, M, L) := fun g0 g1 => by
        rw [if_neg g0, if_neg g1] at h0
        exact h0 rfl M cFr.rf
      refine zif_c (fun g1 => zif_c (fun g2 => op g2) (fun g2 => zif_c (fun g3 => cl g2 g3) (fun g3 => bad g2 g3))) (fun g1 => zif_c (fun g4 => zif_c (fun g2 => op g2) (fun g2 => zif_c (fun g3 => cl g2 g3) (fun g3 => bad g2 g3))) (fun g4 => absurd ⟨by omega, by omega⟩ gd))
end WO
