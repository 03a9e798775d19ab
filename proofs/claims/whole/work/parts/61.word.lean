/-! the reference reads a word -/
section WQ
variable {d : Nat} {M M' L : zM} {Q : Int → zW → Prop} {P R : Nat → Nat} {ws : List (List Int)} {tx : List Int} {hs : List zLw} {kp : zKp} {ls : Nat → Option (List Int)} {rf : Nat → Int}
def pcA (w : List Int) (m0 j : Nat) : Int := if m0 + j < 14 then w.getD (m0 + j) 0 else 0
def pcL (w : List Int) (m0 : Nat) : Nat → List Int
  | 0 => []
  | j + 1 => pcL w m0 j ++ [pcA w m0 j]
theorem pcL_len {w : List Int} {m0 : Nat} : ∀ j, (pcL w m0 j).length = j
  | 0 => rfl
  | j + 1 => by
    show (pcL w m0 j ++ [pcA w m0 j]).length = _
    rw [List.length_append, List.length_singleton, pcL_len j]
theorem pcL_at {w : List Int} {m0 i : Nat} : ∀ j, i < j → (pcL w m0 j).getD i 0 = pcA w m0 i
  | 0, h => by omega
  | j + 1, h => by
    show (pcL w m0 j ++ [pcA w m0 j]).getD i 0 = _
    rw [getD_snoc, pcL_len]
    by_cases e : i = j
    · subst e; rw [if_neg (by omega), if_pos rfl]
    · rw [if_pos (by omega)]; exact pcL_at j (by omega)
theorem tmR_pre {w : List Int} {s len i : Nat} (hi : i < w.length) (hw : isW w) (hl : w.length ≤ 15) : ∀ j, (tmR w s len j).getD i 0 = w.getD i 0
  | 0 => rfl
  | j + 1 => by
    have h3 := (tmR_ok (s := s) (len := len) hw hl j).2.2
    rw [tmR_s, getD_app_l (by omega)]
    exact tmR_pre hi hw hl j
/-- one round more -/
theorem round_eq {m m0 mb : Nat} {w : List Int} {j : Nat} (hw : isW w) (hl : w.length = min m 15) (h0 : m0 ≤ m) (hmb : m ≤ mb) (hb : (tmR w (min m0 15) (w.length - min m0 15) j).length = min mb 15) :
    (pcL w m0 (m - m0)).foldl ps15 (tmR w (min m0 15) (w.length - min m0 15) j) = tmR w (min m0 15) (w.length - min m0 15) (j + 1) := by
  rw [ps15_fold _ _ (by omega), tmR_s]
  congr 1
  by_cases g : mb < 15
  · rw [hb]
    have e1 : min m0 15 = m0 := by omega
    have e2 : w.length = m := by omega
    rw [e1, e2]
    refine getD_ext ?_ (fun i hi => ?_)
    · rw [List.length_take, List.length_take, List.length_drop, pcL_len]
      rw [e1, e2] at hb
      omega
    · rw [List.length_take, pcL_len] at hi
      rw [getD_piece (by omega), List.getD_eq_getElem?_getD, List.getElem?_take_of_lt (by omega), ← List.getD_eq_getElem?_getD, pcL_at _ (by omega)]
      unfold pcA
      rw [if_pos (by omega), tmR_pre (by omega) hw (by omega)]
  · rw [hb, show 15 - min mb 15 = 0 by omega, List.take_zero, show min (w.length - min m0 15) 0 = 0 by omega, List.take_zero]
theorem mo_times_in {n x4 : Int} {m0 m mb : Nat} {w wb : List Int} {M0 : zM} (hw : isW w) (hl : w.length = min m 15) (h0 : m0 ≤ m) (hmb : m ≤ mb) (hm1 : m ≤ 100)
    (h : ∀ M', wM M' (min (mb + (m - m0)) 100) ((pcL w m0 (m - m0)).foldl ps15 wb) → (∀ i, i < min m 14 → M' 127 i = w.getD i 0) → M' 112 18 = M0 112 18 → M' 112 19 = M0 112 19 → pF M0 M' → zEx (d + 2) m_mo_times zb0 Q 52 ([zR 112, zI (m0 : Int), zI n, zI ((m - m0 : Nat) : Int), zI (zwr (x4 + 1)), zI ((m - m0 : Nat) : Int)], [], SH, M', L)) :
    ∀ (q j : Nat) (Mk : zM), j + q = m - m0 → wM Mk (min (mb + j) 100) ((pcL w m0 j).foldl ps15 wb) → (∀ i, i < min m 14 → Mk 127 i = w.getD i 0) → Mk 112 18 = M0 112 18 → Mk 112 19 = M0 112 19 → pF M0 Mk → zEx (d + 2) m_mo_times zb0 Q 61 ([zR 112, zI (m0 : Int), zI n, zI ((m - m0 : Nat) : Int), zI x4, zI (j : Int)], [], SH, Mk, L) := by
  intro q
  induction q with
  | zero =>
    intro j Mk hj hm hp a1 a2 a3
    have hj : j = m - m0 := by omega
    subst hj
    refine g_mo_times_61 ?_
    rw [if_neg (by omega)]
    exact h Mk hm hp a1 a2 a3
  | succ q ih =>
    intro j Mk hj hm hp a1 a2 a3
    have e := fun M' => ih (j + 1) M' (by omega)
    have epc : (pcL w m0 (j + 1)).foldl ps15 wb = ps15 ((pcL w m0 j).foldl ps15 wb) (pcA w m0 j) := by
      show (pcL w m0 j ++ [pcA w m0 j]).foldl ps15 wb = _
      rw [List.foldl_append]; rfl
    rw [epc] at e
    have hmm : min (min (mb + j) 100 + 1) 100 = min (mb + (j + 1)) 100 := by omega
    refine g_mo_times_61 ?_
    rw [if_pos (by omega), zwr_id (x := (m0 : Int) + (j : Int)) (by omega) (by omega)]
    have go : ∀ a, a = pcA w m0 j → (0 ≤ a ∧ a < 6) → zEv (d + 1) m_mo_makes [zR 112, zI a] (SH, Mk, L) (fun _ w_1 => zEx (d + 2) m_mo_times zb0 Q 93 ([zR 112, zI (m0 : Int), zI n, zI ((m - m0 : Nat) : Int), zI x4, zI (j : Int)], [], w_1)) := by
      intro a hae ha
      refine e_mo_makes (d := d) hm ha (fun M1 b1 b2 b3 b4 b5 => g_mo_times_93 ?_)
      rw [zwr_id (by omega) (by omega), show ((j : Int) + 1) = ((j + 1 : Nat) : Int) by omega]
      rw [hmm, hae] at b1
      exact e M1 b1 (fun i hi => by rw [b5 i (by omega)]; exact hp i hi) (by rw [b2, a1]) (by rw [b3, a2]) (a3.tr b4)
    by_cases g : m0 + j < 14
    · rw [if_pos (by omega), zck_t (by omega), show ((m0 : Int) + (j : Int)).toNat = m0 + j by omega, hp _ (by omega)]
      exact go _ (by unfold pcA; rw [if_pos g]) (isW_at hw (by omega))
    · rw [if_neg (by omega)]
      exact go 0 (by unfold pcA; rw [if_neg g]) (by omega)
theorem mo_times_out {n : Nat} {m0 m : Nat} {w : List Int} {M0 : zM} (hn : 1 ≤ n) (hn9 : n ≤ 9) (hw : isW w) (hl : w.length = min m 15) (h0 : m0 ≤ m) (hm1 : m ≤ 100)
    (h : ∀ (mb : Nat) (M' : zM), m ≤ mb → wM M' mb (tmR w (min m0 15) (w.length - min m0 15) (n - 1)) → M' 112 18 = M0 112 18 → M' 112 19 = M0 112 19 → pF M0 M' → Q 0 (SH, M', L)) :
    ∀ (q t mb : Nat) (Mk : zM) (v5 : zV), t + 1 + q = n → m ≤ mb → wM Mk mb (tmR w (min m0 15) (w.length - min m0 15) t) → (∀ i, i < min m 14 → Mk 127 i = w.getD i 0) → Mk 112 18 = M0 112 18 → Mk 112 19 = M0 112 19 → pF M0 Mk → zEx (d + 2) m_mo_times zb0 Q 52 ([zR 112, zI (m0 : Int), zI (n : Int), zI ((m - m0 : Nat) : Int), zI ((t : Int) + 1), v5], [], SH, Mk, L) := by
  intro q
  induction q with
  | zero =>
    intro t mb Mk v5 ht hmb hm hp a1 a2 a3
    refine g_mo_times_52 ?_
    rw [if_neg (by omega)]
    rw [show n - 1 = t by omega] at h
    exact h mb Mk hmb hm a1 a2 a3
  | succ q ih =>
    intro t mb Mk v5 ht hmb hm hp a1 a2 a3
    have hmb1 := hm.2.1
    refine g_mo_times_52 ?_
    rw [if_pos (by omega)]
    refine mo_times_in (M0 := M0) hw hl h0 hmb hm1 (fun M1 b1 b2 b3 b4 b5 => ?_) (m - m0) 0 Mk (by omega) (by rw [Nat.add_zero, show min mb 100 = mb by omega]; exact hm) hp a1 a2 a3
    rw [round_eq hw hl h0 hmb hm.2.2.1] at b1
    rw [zwr_id (by omega) (by omega), show ((t : Int) + 1) = ((t + 1 : Nat) : Int) by omega]
    exact ih (t + 1) (min (mb + (m - m0)) 100) M1 _ (by omega) (by omega) b1 b2 b3 b4 b5
/-- a digit, if there is one -/
def dgt (c : Int) : Prop := 48 ≤ c ∧ c ≤ 57
theorem e_mo_times {k m m0 : Nat} {w : List Int} (ht : tM M tx) (hat : M 112 18 = (k : Int)) (hk : k ≤ tx.length) (hm : wM M m w) (h0 : m0 ≤ m)
    (hn : ¬ dgt (hr tx k) → Q 0 (SH, M, L)) (hy : dgt (hr tx k) → ∀ (m' : Nat) (M' : zM), m0 ≤ m' → wM M' m' (tmS w (min m0 15) (hr tx k - 48).toNat) → M' 112 18 = ((k + 1 : Nat) : Int) → M' 112 19 = M 112 19 → pF M M' → Q 0 (SH, M', L)) : zEv (d + 2) m_mo_times [zR 112, zI (m0 : Int)] (SH, M, L) Q := by
  have t72 := ht.2.1
  obtain ⟨m1, m2, m3, m4, m5⟩ := hm
  refine b_mo_times (g_mo_times_0 (e_mo_here ht hat (g_mo_times_4 (e_mo_isIn (g_mo_times_11 ?_)))))
  by_cases g : 48 ≤ hr tx k ∧ hr tx k ≤ 57
  · rw [if_pos g, if_neg (by decide)]
    refine e_mo_here ht hat (g_mo_times_19 ?_)
    have e1 : ∀ v : Int, zmu M 112 18 v 112 21 = (m : Int) := fun v => by rw [zmu_j (by decide), m1]
    rw [e1, hat]
    simp (disch := omega) only [zck_t, if_pos, if_neg, if_true, if_false, zwr_id, Int.toNat_natCast]
    rw [show ((k : Int) + 1) = ((k + 1 : Nat) : Int) by omega, show ((m : Int) - (m0 : Int)) = ((m - m0 : Nat) : Int) by omega]
    by_cases g0 : hr tx k = 48
    · have e := hy g
      unfold tmS at e
      rw [if_pos (by omega)] at e
      rw [if_pos (by omega)]
      refine g_mo_times_52 ?_
      rw [if_neg (by omega)]
      refine e m0 _ (Nat.le_refl _) ⟨zmu_s, by omega, by rw [List.length_take]; omega, isW_take m4 _, fun j hj => ?_⟩ (by rw [zmu_j (by decide), zmu_s]) (by rw [zmu_j (by decide), zmu_j (by decide)]) ((pF_112 (by omega)).tr (pF_112 (by omega)))
      rw [zmu_kf (a := 127) (by decide), zmu_kf (a := 127) (by decide), m5 j (by omega), List.getD_eq_getElem?_getD, List.getD_eq_getElem?_getD, List.getElem?_take_of_lt (by omega)]
    · have e := hy g
      unfold tmS at e
      rw [if_neg (by omega)] at e
      rw [if_neg (by omega)]
      obtain ⟨n, hn'⟩ : ∃ n : Nat, hr tx k - 48 = (n : Int) := ⟨(hr tx k - 48).toNat, by omega⟩
      rw [hn', Int.toNat_natCast] at e
      rw [hn']
      exact mo_times_out (d := d) (M0 := zmu M 112 18 ((k + 1 : Nat) : Int)) (by omega) (by omega) m4 m3 h0 m2 (fun mb M1 b0 b1 b2 b3 b4 => e mb M1 (by omega) b1 (by rw [b2, zmu_s]) (by rw [b3, zmu_j (by decide)]) ((pF_112 (by omega)).tr b4)) (n - 1) 0 m _ _ (by omega) (Nat.le_refl _) ⟨by rw [zmu_j (by decide)]; exact m1, m2, m3, m4, fun j hj => by rw [zmu_kf (a := 127) (by decide)]; exact m5 j hj⟩ (fun j hj => by rw [zmu_kf (a := 127) (by decide)]; exact m5 j hj) rfl rfl pF.r0
  · rw [if_neg g, if_pos rfl]
    exact hn g
/-! reading -/
/-- the text from k on -/
def wd2 (tx : List Int) (k : Nat) (S : zPs) : Int ⊕ List Int := wdA (tx.drop k) k S
theorem wd2_s {k : Nat} {S S' : zPs} (hk : k < tx.length) (h : pstep (hr tx k) S = some S') : wd2 tx k S = wd2 tx (k + 1) S' := by
  have hd : tx.drop k = tx.getD k 0 :: tx.drop (k + 1) := by
    rw [List.drop_eq_getElem_cons hk, List.getD_eq_getElem?_getD, List.getElem?_eq_getElem hk]; rfl
  unfold hr at h
  rw [if_pos hk] at h
  unfold wd2
  rw [hd, wdA_some h]
theorem wd2_n {k : Nat} {S : zPs} (hk : k < tx.length) (h : pstep (hr tx k) S = none) : wd2 tx k S = Sum.inl (-1000 - (k : Int)) := by
  have hd : tx.drop k = tx.getD k 0 :: tx.drop (k + 1) := by
    rw [List.drop_eq_getElem_cons hk, List.getD_eq_getElem?_getD, List.getElem?_eq_getElem hk]; rfl
  unfold hr at h
  rw [if_pos hk] at h
  unfold wd2
  rw [hd, wdA_none h]
theorem wd2_e {k : Nat} {S : zPs} (hk : tx.length ≤ k) : wd2 tx k S = if S.2.1 = [] then Sum.inr S.1 else Sum.inl (-1000 - (k : Int)) := by
  unfold wd2
  rw [List.drop_of_length_le hk]
  rfl
theorem hr_k {k : Nat} (h : hr tx k ≠ -9) : k < tx.length := by
  unfold hr at h
  by_cases g : k < tx.length
  · exact g
  · rw [if_neg g] at h; exact absurd rfl h
/-- what follows doesn't take the last item again -/
def itm (tx : List Int) (k : Nat) (it : Option Nat) : Prop := it = none ∨ ¬ dgt (hr tx k)
theorem e_mo_reads : ∀ (n deep k m : Nat) (w : List Int) (st : List Nat) (it : Option Nat) (M : zM) (Q : Int → zW → Prop), tx.length - k ≤ n → deep ≤ 5 → st.length = deep → k ≤ tx.length → tM M tx → M 112 18 = (k : Int) → M 112 19 = -9 → wM M m w → itm tx k it →
    (∀ (x : Nat) (M' : zM), wd2 tx k (w, st, it) = Sum.inl (-1000 - (x : Int)) → x ≤ tx.length → M' 112 19 = (x : Int) → pF M M' → Q 0 (SH, M', L)) →
    (∀ (k' m' : Nat) (w' : List Int) (it' : Option Nat) (M' : zM), wd2 tx k (w, st, it) = wd2 tx k' (w', st, it') → k ≤ k' → k' ≤ tx.length → m ≤ m' → ¬ ltr (hr tx k') → hr tx k' ≠ 40 → itm tx k' it' → M' 112 18 = (k' : Int) → M' 112 19 = -9 → wM M' m' w' → pF M M' → Q 0 (SH, M', L)) →
    ∀ v2, zEx (d + 3 + (5 - deep)) m_mo_reads zb0 Q 0 ([zR 112, zI (deep : Int), v2], [], SH, M, L) := by
  intro n
  induction n with
  | zero =>
    intro deep k m w st it M Q hn hdp hst hk ht hat hft hm hit h0 h1 v2
    have hke : k = tx.length := by omega
    have hh : hr tx k = -9 := by unfold hr; rw [if_neg (by omega)]
    obtain ⟨e, he⟩ : ∃ e, e = d + (5 - deep) := ⟨_, rfl⟩
    rw [show d + 3 + (5 - deep) = e + 3 by omega]
    refine g_mo_reads_0 ?_
    rw [if_pos hft]
    refine e_mo_isSign (d := e) ht hat (g_mo_reads_13 ?_)
    rw [if_neg (show ¬ ltr (hr tx k) by rw [hh]; decide), if_pos rfl]
    refine e_mo_here ht hat (g_mo_reads_20 ?_)
    rw [if_neg (show ¬ hr tx k = 40 by rw [hh]; decide)]
    exact h1 k m w it M rfl (Nat.le_refl _) hk (Nat.le_refl _) (by rw [hh]; decide) (by rw [hh]; decide) hit hat hft hm pF.r0
  | succ n ih =>
    intro deep k m w st it M Q hn hdp hst hk ht hat hft hm hit h0 h1 v2
    have t72 := ht.2.1
    obtain ⟨m1, m2, m3, m4, m5⟩ := id hm
    obtain ⟨e, he⟩ : ∃ e, e = d + (5 - deep) := ⟨_, rfl⟩
    rw [show d + 3 + (5 - deep) = e + 3 by omega]
    refine g_mo_reads_0 ?_
    rw [if_pos hft]
    have again : ∀ (k2 m2 : Nat) (w2 : List Int) (it2 : Option Nat) (M2 : zM) (v2 : zV), wd2 tx k (w, st, it) = wd2 tx k2 (w2, st, it2) → k < k2 → k2 ≤ tx.length → m ≤ m2 → itm tx k2 it2 → M2 112 18 = (k2 : Int) → M2 112 19 = -9 → wM M2 m2 w2 → pF M M2 → zEx (e + 3) m_mo_reads zb0 Q 0 ([zR 112, zI (deep : Int), v2], [], SH, M2, L) := by
      intro k2 mm w2 it2 M2 v2 hw hlt hle hmm hit2 a1 a2 a3 a4
      have := ih deep k2 mm w2 st it2 M2 Q (by omega) hdp hst hle (a4.t ht) a1 a2 a3 hit2 (fun x M' q1 q2 q3 q4 => h0 x M' (hw.trans q1) q2 q3 (a4.tr q4)) (fun k' m' w' it' M' q1 q2 q3 q4 q5 q6 q7 q8 q9 q10 q11 => h1 k' m' w' it' M' (hw.trans q1) (by omega) q3 (by omega) q5 q6 q7 q8 q9 q10 (a4.tr q11)) v2
      rw [show d + 3 + (5 - deep) = e + 3 by omega] at this
      exact this
    -- behind an item that began at m0
    have tail : ∀ (k2 m2 m0 : Nat) (w2 : List Int) (M2 : zM), wd2 tx k (w, st, it) = wd2 tx k2 (w2, st, some (min m0 15)) → k < k2 → k2 ≤ tx.length → m ≤ m0 → m0 ≤ m2 → M2 112 18 = (k2 : Int) → M2 112 19 = -9 → wM M2 m2 w2 → pF M M2 → zEv (e + 2) m_mo_times [zR 112, zI (m0 : Int)] (SH, M2, L) (fun _ w_1 => zEx (e + 3) m_mo_reads zb0 Q 126 ([zR 112, zI (deep : Int), zI (m0 : Int)], [], w_1)) := by
      intro k2 mm m0 w2 M2 hw hlt hle hm0 hm02 a1 a2 a3 a4
      refine e_mo_times (d := e) (a4.t ht) a1 hle a3 hm02 (fun hd => g_mo_reads_126 ?_) (fun hd m' M' b0 b1 b2 b3 b4 => g_mo_reads_126 ?_)
      · exact again k2 mm w2 (some (min m0 15)) M2 _ hw hlt hle (by omega) (Or.inr hd) a1 a2 a3 a4
      · have hkl : k2 < tx.length := hr_k (fun z => by unfold dgt at hd; omega)
        have hps : pstep (hr tx k2) (w2, st, some (min m0 15)) = some (tmS w2 (min m0 15) (hr tx k2 - 48).toNat, st, none) := by
          unfold dgt at hd
          unfold pstep
          rw [if_neg (by omega), if_pos hd]
        exact again (k2 + 1) m' _ none M' _ (hw.trans (wd2_s hkl hps)) (by omega) (by omega) (by omega) (Or.inl rfl) b2 (by rw [b3, a2]) b1 (a4.tr b4)
    refine e_mo_isSign (d := e) ht hat (g_mo_reads_13 ?_)
    have pf18 : ∀ v : Int, pF M (zmu M 112 18 v) := fun v => pF_112 (by omega)
    by_cases gl : ltr (hr tx k)
    · have hkl := hr_lt (Or.inl gl)
      rw [if_pos gl, if_neg (by decide), m1]
      refine e_mo_isSign (d := e) ht hat (g_mo_reads_34 ?_)
      rw [if_pos gl, if_neg (by decide)]
      refine e_mo_here ht hat (g_mo_reads_42 ?_)
      have hrb := hr_in ht k
      rw [zwr_id (by omega) (by omega)]
      refine e_mo_makes (d := e + 1) hm (by omega) (fun M1 b1 b2 b3 b4 b5 => g_mo_reads_48 ?_)
      rw [b2, hat, zwr_id (by omega) (by omega), show ((k : Int) + 1) = ((k + 1 : Nat) : Int) by omega]
      have hps : pstep (hr tx k) (w, st, it) = some (ps15 w (hr tx k - 97), st, some (min m 15)) := by
        unfold pstep
        rw [if_pos gl, m3]
      refine tail (k + 1) (min (m + 1) 100) m _ _ (wd2_s hkl hps) (by omega) (by omega) (Nat.le_refl _) (by omega) zmu_s (by rw [zmu_j (by decide), b3, hft]) ⟨?_, b1.2.1, b1.2.2.1, b1.2.2.2.1, fun j hj => ?_⟩ (b4.tr (pF_112 (by omega)))
      · rw [zmu_j (by decide)]; exact b1.1
      · rw [zmu_kf (a := 127) (by decide)]; exact b1.2.2.2.2 j hj
    · rw [if_neg gl, if_pos rfl]
      refine e_mo_here ht hat (g_mo_reads_20 ?_)
      by_cases g40 : hr tx k = 40
      · have hkl : k < tx.length := hr_k (by omega)
        rw [if_pos g40, m1]
        refine e_mo_isSign (d := e) ht hat (g_mo_reads_34 ?_)
        rw [if_neg gl, if_pos rfl]
        by_cases g5 : deep = 5
        · rw [if_pos (by omega)]
          have hps : pstep (hr tx k) (w, st, it) = none := by
            unfold pstep
            rw [if_neg gl, if_neg (by omega), if_pos g40, if_neg (show ¬ st.length < 5 by omega)]
          refine e_mo_fails (fun M3 c1 c2 c3 _ _ => g_mo_reads_70 (h0 k M3 (wd2_n hkl hps) hk ?_ c3))
          rw [c1, if_pos hft, hat]
        · rw [if_neg (by omega), hat, zwr_id (by omega) (by omega), zwr_id (by omega) (by omega), show ((k : Int) + 1) = ((k + 1 : Nat) : Int) by omega, show (deep : Int) + 1 = ((deep + 1 : Nat) : Int) by omega]
          have hps : pstep (hr tx k) (w, st, it) = some (w, w.length :: st, none) := by
            unfold pstep
            rw [if_neg gl, if_neg (by omega), if_pos g40, if_pos (show st.length < 5 by omega)]
          have hw1 := wd2_s hkl hps
          have wm1 : wM (zmu M 112 18 ((k + 1 : Nat) : Int)) m w := ⟨by rw [zmu_j (by decide)]; exact m1, m2, m3, m4, fun j hj => by rw [zmu_kf (a := 127) (by decide)]; exact m5 j hj⟩
          have rc := ih (deep + 1) (k + 1) m w (w.length :: st) none (zmu M 112 18 ((k + 1 : Nat) : Int)) (fun _ w_1 => zEx (e + 3) m_mo_reads zb0 Q 88 ([zR 112, zI (deep : Int), zI (m : Int)], [], w_1)) (by omega) (by omega) (by rw [List.length_cons]; omega) (by omega) ((pf18 _).t ht) zmu_s (by rw [zmu_j (by decide), hft]) wm1 (Or.inl rfl) (fun x M' q1 q2 q3 q4 => g_mo_reads_88 ?_) (fun k' m' w' it' M' q1 q2 q3 q4 q5 q6 q7 q8 q9 q10 q11 => g_mo_reads_88 ?_) zN
          · have lv : d + 3 + (5 - (deep + 1)) = e + 2 := by omega
            rw [lv] at rc
            exact b_mo_reads rc
          · rw [q3, if_neg (by omega)]
            refine e_mo_fails (fun M3 c1 c2 c3 _ _ => g_mo_reads_110 (h0 x M3 (hw1.trans q1) q2 ?_ (((pf18 _).tr q4).tr c3)))
            rw [c1, q3, if_neg (by omega)]
          · have tq := ((pf18 ((k + 1 : Nat) : Int)).tr q11).t ht
            rw [q9, if_pos rfl]
            refine e_mo_here tq q8 (g_mo_reads_101 ?_)
            by_cases g41 : hr tx k' = 41
            · have hkl' : k' < tx.length := hr_k (by omega)
              rw [if_pos g41, q8, zwr_id (by omega) (by omega), show ((k' : Int) + 1) = ((k' + 1 : Nat) : Int) by omega]
              have hps2 : pstep (hr tx k') (w', w.length :: st, it') = some (w', st, some (min m 15)) := by
                unfold pstep
                rw [if_neg q5, if_neg (by omega), if_neg (by omega), if_pos g41, m3]
              refine tail (k' + 1) m' m w' _ ((hw1.trans q1).trans (wd2_s hkl' hps2)) (by omega) (by omega) (Nat.le_refl _) q4 zmu_s (by rw [zmu_j (by decide), q9]) ⟨?_, q10.2.1, q10.2.2.1, q10.2.2.2.1, fun j hj => ?_⟩ (((pf18 _).tr q11).tr (pF_112 (by omega)))
              · rw [zmu_j (by decide)]; exact q10.1
              · rw [zmu_kf (a := 127) (by decide)]; exact q10.2.2.2.2 j hj
            · rw [if_neg g41]
              have hend : wd2 tx k' (w', w.length :: st, it') = Sum.inl (-1000 - (k' : Int)) := by
                by_cases gk : k' < tx.length
                · refine wd2_n gk ?_
                  unfold pstep
                  rw [if_neg q5]
                  by_cases gd : 48 ≤ hr tx k' ∧ hr tx k' ≤ 57
                  · rw [if_pos gd]
                    rcases q7 with z | z
                    · rw [z]
                    · exact absurd gd z
                  · rw [if_neg gd, if_neg q6, if_neg g41]
                · rw [wd2_e (by omega), if_neg (by simp)]
              refine e_mo_fails (fun M3 c1 c2 c3 _ _ => g_mo_reads_110 (h0 k' M3 ((hw1.trans q1).trans hend) q3 ?_ (((pf18 _).tr q11).tr c3)))
              rw [c1, q9, if_pos rfl, q8]
      · rw [if_neg g40]
        exact h1 k m w it M rfl (Nat.le_refl _) hk (Nat.le_refl _) gl g40 hit hat hft hm pF.r0
theorem c_mo_word (hI : iM M P R ws tx hs kp ls rf) (h : ∀ M1 L1, jM M1 (opWord P R ws tx hs kp ls rf).1 → aC M M1 → Q (opWord P R ws tx hs kp ls rf).2 (SH, M1, L1)) : zEv (d + 9) m_mo_word [zR 112] (SH, M, L) Q := by
  unfold opWord at h
  have s5 := hI.s.2.1
  have t72 := hI.t.2.1
  refine b_mo_word (g_mo_word_0 ?_)
  have p1 : pF M (zmu (zmu (zmu M 112 18 0) 112 19 (-9)) 112 21 0) := ((pF_112 (by omega)).tr (pF_112 (by omega))).tr (pF_112 (by omega))
  have cl : ∀ M1, pF M M1 → iM (zmu M1 112 7 0) P R ws [] hs kp ls rf ∧ aC M (zmu M1 112 7 0) := fun M1 a => by
    refine ⟨hI.xt (S := [126, 127]) (T := [7, 18, 19, 21]) (fun k hk h112 => ?_) (fun j hj => ?_) (by decide) (by decide) ⟨zmu_s, by simp, fun c hc => ?_, fun j hj => ?_⟩, fun k hk => ?_⟩
    · simp at hk
      rw [zmu_kf h112]; exact a.1 k h112 hk.1 hk.2
    · simp at hj
      rw [zmu_j hj.1]; exact a.2 j hj.2.1 hj.2.2.1 hj.2.2.2
    · cases hc
    · simp at hj
    · rw [zmu_kf (by omega)]; exact a.1 k (by omega) (by omega) (by omega)
  have bad : ∀ (x : Nat) (M1 : zM), wdA tx 0 ([], [], none) = Sum.inl (-1000 - (x : Int)) → x ≤ tx.length → M1 112 19 = (x : Int) → pF M M1 → zEx (d + 9) m_mo_word zb0 Q 36 ([zR 112], [], SH, M1, L) := fun x M1 hx hxl a1 a2 => by
    have h := h
    rw [hx] at h
    refine g_mo_word_36 ?_
    rw [zmu_j (by decide), a1, if_neg (by omega), zwr_id (by omega) (by omega)]
    exact h _ L (cl M1 a2).1 (cl M1 a2).2
  have rd := e_mo_reads (d := d) (tx := tx) (L := L) tx.length 0 0 0 [] [] none (zmu (zmu (zmu M 112 18 0) 112 19 (-9)) 112 21 0) (fun _ w => zEx (d + 9) m_mo_word zb0 Q 21 ([zR 112], [], w)) (by omega) (by omega) rfl (by omega) (p1.t hI.t) (by rw [zmu_j (by decide), zmu_j (by decide), zmu_s]; rfl) (by rw [zmu_j (by decide), zmu_s]) ⟨(by rw [zmu_s]; rfl), (by omega), rfl, (fun a ha => (by cases ha)), (fun j hj => (by omega))⟩ (Or.inl rfl) (fun x M1 q1 q2 q3 q4 => g_mo_word_21 ?_) (fun k' m' w' it' M1 q1 q2 q3 q4 q5 q6 q7 q8 q9 q10 q11 => g_mo_word_21 ?_) zN
  · exact b_mo_reads rd
  · refine zif_c (fun g => e_mo_fails (fun M3 c1 c2 c3 _ _ => bad x M3 q1 q2 ?_ ((p1.tr q4).tr c3))) (fun g => bad x M1 q1 q2 q3 (p1.tr q4))
    rw [c1, q3, if_neg (by omega)]
  · have pq := p1.tr q11
    have tq := pq.t hI.t
    rw [q8, tq.1]
    by_cases gk : k' < tx.length
    · rw [if_pos (by omega)]
      have hend : wd2 tx k' (w', [], it') = Sum.inl (-1000 - (k' : Int)) := by
        refine wd2_n gk ?_
        unfold pstep
        rw [if_neg q5]
        by_cases gd : 48 ≤ hr tx k' ∧ hr tx k' ≤ 57
        · rw [if_pos gd]
          rcases q7 with z | z
          · rw [z]
          · exact absurd gd z
        · rw [if_neg gd, if_neg q6]
          split <;> rfl
      refine e_mo_fails (fun M3 c1 c2 c3 _ _ => bad k' M3 (q1.trans hend) q3 ?_ (pq.tr c3))
      rw [c1, q9, if_pos rfl, q8]
    · rw [if_neg (by omega)]
      have hok : wdA tx 0 ([], [], none) = Sum.inr w' := by
        have := q1.trans (wd2_e (tx := tx) (k := k') (S := (w', [], it')) (by omega))
        rw [if_pos rfl] at this
        exact this
      rw [hok] at h
      obtain ⟨m1, m2, m3, m4, m5⟩ := q10
      have J := cl M1 pq
      refine g_mo_word_36 ?_
      rw [zmu_j (by decide), zmu_j (by decide), zmu_j (by decide), q9, if_pos rfl, m1, pq.2 2 (by decide) (by decide) (by decide), hI.s.1]
      by_cases g14 : 14 < m'
      · simp only [if_pos (show 14 < w'.length ∨ 5 ≤ ws.length by omega)] at h
        rw [if_pos (by omega)]
        exact g_mo_word_94 (h _ L J.1 J.2)
      · rw [if_neg (by omega)]
        by_cases g5 : ws.length < 5
        · simp only [if_neg (show ¬ (14 < w'.length ∨ 5 ≤ ws.length) by omega)] at h
          rw [if_neg (by omega), show (m' : Int) = (w'.length : Int) by omega]
          refine e_mo_comes zk_127 (by decide) (by decide) (by decide) J.1 g5 ⟨fun j hj => ?_, by rw [zl_127]; omega⟩ m4 (by omega) (by rw [zl_127]; omega) (fun M3 I3 f3 => g_mo_word_94 (h M3 L I3 (J.2.tr f3)))
          rw [zmu_kf (a := 127) (by decide)]
          exact m5 j (by omega)
        · simp only [if_pos (show 14 < w'.length ∨ 5 ≤ ws.length by omega)] at h
          rw [if_pos (by omega)]
          exact g_mo_word_94 (h _ L J.1 J.2)
end WQ
