/-! the class reads a word -/
section WP
variable {d : Nat} {M M' L : zM} {Q : Int → zW → Prop} {P R : Nat → Nat} {ws : List (List Int)} {tx : List Int} {hs : List zLw} {kp : zKp} {ls : Nat → Option (List Int)} {rf : Nat → Int}
theorem pOk_0 : pOk ([], [], none) := by
  refine ⟨fun a ha => ?_, Nat.zero_le _, Nat.zero_le _, List.Pairwise.nil, fun s hs => ?_, fun s hs => ?_⟩
  · cases ha
  · cases hs
  · cases hs
theorem pa_word_loop {M0 : zM} (ht : rIs M0 64 tx) (h255 : ∀ c ∈ tx, 0 ≤ c ∧ c ≤ 255)
    (h0 : ∀ f, wdA tx 0 ([], [], none) = Sum.inl f → f < 0 → ∀ M', cFr cP M0 M' → Q f (SH, M', L))
    (h1 : ∀ w, wdA tx 0 ([], [], none) = Sum.inr w → isW w → w.length ≤ 15 → ∀ M', rIs M' 67 w → cFr cP M0 M' → Q 0 (SH, M', L)) :
    ∀ (t : List Int) (k : Nat) (S : zPs) (Mk : zM), tx.drop k = t → k ≤ tx.length → pOk S → pC Mk S → wdA tx 0 ([], [], none) = wdA t k S → cFr cP M0 Mk → zEx (d + 5) m_pa_readWord zb0 Q 20 ([zR 66, zR 64, zI (k : Int)], [], SH, Mk, L) := by
  have h72 : tx.length ≤ 72 := by have := ht.2.2; rw [show zln SH (64 + 1) = 72 from zl_65] at this; omega
  intro t
  induction t with
  | nil =>
    intro k S Mk hd hk hp hc he hf
    have htk := hf.row ht (by decide) (by decide)
    have hkl : tx.length ≤ k := by have := congrArg List.length hd; simp at this; omega
    refine g_pa_readWord_20 zRow_64 (e_ro_size zRow_64 htk (g_pa_readWord_25 zRow_64 ?_))
    rw [if_neg (by omega), hc.2.1]
    by_cases g : S.2.1 = []
    · have he : wdA tx 0 ([], [], none) = Sum.inr S.1 := by rw [he]; show (if S.2.1 = [] then _ else _) = _; rw [if_pos g]
      rw [if_neg (by rw [g]; simp)]
      exact h1 S.1 he hp.1 hp.2.1 Mk hc.1 hf
    · have g0 := List.length_pos_iff.mpr g
      have he : wdA tx 0 ([], [], none) = Sum.inl (-1000 - (k : Int)) := by rw [he]; show (if S.2.1 = [] then _ else _) = _; rw [if_neg g]
      rw [if_pos (by omega)]
      refine e_ro_size zRow_64 htk (g_pa_readWord_66 zRow_64 ?_)
      rw [zwr_id (by omega) (by omega), show (tx.length : Int) = (k : Int) by omega]
      exact h0 _ he (by omega) Mk hf
  | cons c t ih =>
    intro k S Mk hd hk hp hc he hf
    have htk := hf.row ht (by decide) (by decide)
    obtain ⟨q1, q2, q3⟩ := drop_cons hd
    have hc255 : 0 ≤ c ∧ c ≤ 255 := by
      refine h255 c ?_
      have : c ∈ tx.drop k := by rw [hd]; exact List.mem_cons_self
      exact List.mem_of_mem_drop this
    refine g_pa_readWord_20 zRow_64 (e_ro_size zRow_64 htk (g_pa_readWord_25 zRow_64 ?_))
    rw [if_pos (by omega)]
    refine e_ro_get zRow_64 htk ?_
    rw [rget_in (by omega), Int.toNat_natCast, q1]
    refine g_pa_readWord_34 zRow_64 (e_pa_takeSign (d := d) hp hc hc255 (fun hn M1 f1 => g_pa_readWord_37 zRow_64 ?_) (fun S' hs M1 g1 f1 => g_pa_readWord_37 zRow_64 ?_))
    · rw [if_pos rfl, zwr_id (by omega) (by omega)]
      exact h0 _ (by rw [he, wdA_none hn]) (by omega) M1 (hf.tr f1)
    · rw [if_neg (by decide), zwr_id (by omega) (by omega), show ((k : Int) + 1) = ((k + 1 : Nat) : Int) by omega]
      exact ih (k + 1) S' M1 q2 (by omega) (pstep_ok hp hs) g1 (by rw [he, wdA_some hs]) (hf.tr f1)
theorem c_lt_word (hI : iC M P R ws tx hs kp ls rf) (h : ∀ M1 L1, jC M1 (opWord P R ws tx hs kp ls rf).1 → aM M M1 → Q (opWord P R ws tx hs kp ls rf).2 (SH, M1, L1)) : zEv (d + 9) m_lt_word [zR 0] (SH, M, L) Q := by
  unfold opWord at h
  have h5 := hI.w5
  refine b_lt_word (g_lt_word_0 ?_)
  refine b_pa_readWord (g_pa_readWord_0 zRow_64 (e_ro_clear zRow_67 (fun M1 g1 f1 => g_pa_readWord_7 zRow_64 ?_)))
  have f2 : cFr cP M (zmu (zmu M1 66 2 0) 66 3 (-9)) := fun k hk => by
    unfold cP at hk
    simp at hk
    rw [zmu_kf (by omega), zmu_kf (by omega), f1 k (by omega) (by omega)]
  have ht2 := f2.row hI.t.1 (by decide) (by decide)
  have clr2 : ∀ (M2 : zM) (Q' : Int → zW → Prop), cFr cP M M2 → (∀ M3, iC M3 P R ws [] hs kp ls rf → aM M M3 → cFr [64, 65] M2 M3 → Q' 0 (SH, M3, L)) → zEv (d + 8) m_ro_clear [zR 64] (SH, M2, L) Q' := fun M2 Q' f3 hq => by
    refine e_ro_clear zRow_64 (fun M3 g3 f4 => hq M3 ?_ ?_ (f4.c (by decide) (by decide)))
    · exact hI.xt (S := 64 :: 65 :: cP) ((f3.up (by decide)).tr ((f4.c (S := [64, 65]) (by decide) (by decide)).up (by decide))) (by decide) ⟨g3, fun c hc => by cases hc⟩
    · exact (f3.aM (by decide)).tr ((f4.c (S := [64, 65]) (by decide) (by decide)).aM (by decide))
  refine pa_word_loop (d := d + 3) ht2 hI.t.2 (fun x hx hx0 M2 f3 => g_lt_word_11 (clr2 M2 _ (f2.tr f3) (fun M3 I3 a3 f4 => g_lt_word_19 ?_))) (fun w hx hw hw15 M2 g2 f3 => g_lt_word_11 (clr2 M2 _ (f2.tr f3) (fun M3 I3 a3 f4 => g_lt_word_19 ?_))) tx 0 ([], [], none) _ rfl (by omega) pOk_0 ⟨⟨?_, fun j hj => absurd hj (Nat.not_lt_zero j), (by rw [zc67]; simp)⟩, ?_, fun i hi => absurd hi (Nat.not_lt_zero i), zmu_s⟩ rfl cFr.rf
  · have h := h
    rw [hx] at h
    rw [if_pos hx0]
    exact h M3 L I3 a3
  · have h := h
    rw [hx] at h
    rw [if_neg (by omega)]
    refine b_pa_told (g_pa_told_0 ?_)
    rw [Int.toNat_natCast]
    have w3 := f4.row g2 (by decide) (by decide)
    refine g_lt_word_32 zRow_67 (e_ro_size zRow_67 w3 (g_lt_word_37 zRow_67 ?_))
    by_cases g : 14 < w.length
    · simp only [if_pos (show 14 < w.length ∨ 5 ≤ ws.length from Or.inl g)] at h
      rw [if_pos (by omega)]
      exact h M3 L I3 a3
    · rw [if_neg (by omega)]
      refine e_sh_isFull zShf_7 I3.s (g_lt_word_49 zRow_67 ?_)
      by_cases g4 : ws.length < 5
      · simp only [if_neg (show ¬ (14 < w.length ∨ 5 ≤ ws.length) by omega)] at h
        rw [if_pos g4, if_pos rfl]
        refine e_sh_place zShf_7 zRow_67 I3.s g4 w3 hw (by omega) (by decide) (fun M4 g5 f5 => g_lt_word_64 zRow_67 ?_)
        exact h M4 L (I3.sx f5 (by decide) g5) (a3.tr (f5.aM (by decide)))
      · simp only [if_pos (show 14 < w.length ∨ 5 ≤ ws.length by omega)] at h
        rw [if_neg g4, if_neg (by decide)]
        exact h M3 L I3 a3
  · rw [zmu_k (by decide), zmu_k (by decide)]; exact g1.1
  · rw [zmu_j (by decide), zmu_s]; rfl
/-! the reference makes letters -/
/-- what is made: m letters (100 at most), w what the class would keep of it -/
def wM (M : zM) (m : Nat) (w : List Int) : Prop := M 112 21 = (m : Int) ∧ m ≤ 100 ∧ w.length = min m 15 ∧ isW w ∧ ∀ j, j < min m 14 → M 127 j = w.getD j 0
theorem e_mo_makes {m : Nat} {w : List Int} {a : Int} (hm : wM M m w) (ha : 0 ≤ a ∧ a < 6) (h : ∀ M', wM M' (min (m + 1) 100) (ps15 w a) → M' 112 18 = M 112 18 → M' 112 19 = M 112 19 → pF M M' → (∀ j, j < min m 14 → M' 127 j = M 127 j) → Q 0 (SH, M', L)) : zEv (d + 1) m_mo_makes [zR 112, zI a] (SH, M, L) Q := by
  obtain ⟨m1, m2, m3, m4, m5⟩ := hm
  have hW : isW (ps15 w a) := by
    unfold ps15
    split
    · intro b hb
      rcases List.mem_append.mp hb with q | q
      · exact m4 b q
      · rw [List.mem_singleton.mp q]; exact ha
    · exact m4
  have hl : (ps15 w a).length = min (min (m + 1) 100) 15 := by
    unfold ps15
    split
    · rw [List.length_append, List.length_singleton]; omega
    · omega
  refine b_mo_makes (g_mo_makes_0 ?_)
  have e1 : ∀ (j : Nat) (v : Int), zmu M 127 j v 112 21 = (m : Int) := fun j v => by rw [zmu_k (by decide), m1]
  simp only [e1, m1]
  by_cases g : m < 14
  · simp (disch := omega) only [zck_t, if_pos, if_neg, if_true, if_false, zwr_id, Int.toNat_natCast]
    refine h _ ⟨?_, by omega, hl, hW, fun j hj => ?_⟩ (by rw [zmu_j (by decide), zmu_k (by decide)]) (by rw [zmu_j (by decide), zmu_k (by decide)]) ((pF_c (by omega)).tr (pF_112 (by omega))) (fun j hj => by rw [zmu_kf (a := 127) (by decide), zmu_j (by omega)])
    · rw [zmu_s]; omega
    · rw [zmu_kf (a := 127) (by decide)]
      unfold ps15
      rw [if_pos (by omega), getD_snoc]
      by_cases z : j = m
      · rw [z, zmu_s, if_neg (by omega), if_pos (by omega)]
      · rw [zmu_j z, if_pos (by omega)]; exact m5 j (by omega)
  · have hold : ∀ (v : Int) (j : Nat), j < min (min (m + 1) 100) 14 → zmu M 112 21 v 127 j = (ps15 w a).getD j 0 := fun v j hj => by
      rw [zmu_kf (a := 127) (by decide), m5 j (by omega)]
      unfold ps15
      split
      · rw [getD_app_l (by omega)]
      · rfl
    rw [if_neg (by omega)]
    by_cases g2 : m < 100
    · simp (disch := omega) only [zck_t, if_pos, if_neg, if_true, if_false, zwr_id, Int.toNat_natCast]
      exact h _ ⟨by rw [zmu_s]; omega, by omega, hl, hW, hold _⟩ (zmu_j (by decide)) (zmu_j (by decide)) (pF_112 (by omega)) (fun j hj => by rw [zmu_kf (a := 127) (by decide)])
    · rw [if_neg (by omega)]
      exact h _ ⟨by rw [zmu_s]; omega, by omega, hl, hW, hold _⟩ (zmu_j (by decide)) (zmu_j (by decide)) (pF_112 (by omega)) (fun j hj => by rw [zmu_kf (a := 127) (by decide)])
theorem ps15_fold : ∀ (p w : List Int), w.length ≤ 15 → p.foldl ps15 w = w ++ p.take (15 - w.length)
  | [], w, _ => by simp
  | a :: p, w, h => by
    rw [List.foldl_cons]
    by_cases g : w.length < 15
    · have e : ps15 w a = w ++ [a] := if_pos g
      rw [e, ps15_fold p (w ++ [a]) (by rw [List.length_append, List.length_singleton]; omega), List.length_append, List.length_singleton, List.append_assoc, show 15 - w.length = (15 - (w.length + 1)) + 1 by omega, List.take_succ_cons]
      rfl
    · have e : ps15 w a = w := if_neg g
      rw [e, ps15_fold p w h, show 15 - w.length = 0 by omega]
      simp
end WP
