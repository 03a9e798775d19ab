/-! rules, by the reference -/
section RV
variable {d : Nat} {M M' L : zM} {Q : Int → zW → Prop} {P R : Nat → Nat} {ws : List (List Int)} {tx : List Int} {hs : List zLw} {kp : zKp} {ls : Nat → Option (List Int)} {rf : Nat → Int}
/-- nothing but what reading needs has changed -/
def pF (M M' : zM) : Prop := (∀ c, c ≠ 112 → c ≠ 126 → c ≠ 127 → M' c = M c) ∧ ∀ j, j ≠ 18 → j ≠ 19 → j ≠ 21 → M' 112 j = M 112 j
theorem pF.r0 : pF M M := ⟨fun _ _ _ _ => rfl, fun _ _ _ _ => rfl⟩
theorem pF.tr {M'' : zM} (h : pF M M') (h' : pF M' M'') : pF M M'' := ⟨fun c a b e => (h'.1 c a b e).trans (h.1 c a b e), fun j a b e => (h'.2 j a b e).trans (h.2 j a b e)⟩
theorem pF_112 {j : Nat} {v : Int} (hj : j = 18 ∨ j = 19 ∨ j = 21) : pF M (zmu M 112 j v) := ⟨fun c a _ _ => zmu_kf a, fun i a b e => zmu_j (by omega)⟩
theorem pF_c {c j : Nat} {v : Int} (hc : c = 126 ∨ c = 127) : pF M (zmu M c j v) := ⟨fun i _ b e => zmu_kf (by omega), fun i _ _ _ => by rw [zmu_k (by omega)]⟩
theorem pF.t (h : pF M M') (ht : tM M tx) : tM M' tx := ht.of (h.2 7 (by decide) (by decide) (by decide)) (h.1 118 (by decide) (by decide) (by decide))
/-- the letter here -/
def hr (tx : List Int) (k : Nat) : Int := if k < tx.length then tx.getD k 0 else -9
theorem e_mo_here {k : Nat} (ht : tM M tx) (hat : M 112 18 = (k : Int)) (h : Q (hr tx k) (SH, M, L)) : zEv (d + 1) m_mo_here [zR 112] (SH, M, L) Q := by
  obtain ⟨t1, t2, t3, t4⟩ := ht
  refine b_mo_here (g_mo_here_0 ?_)
  unfold hr at h
  rw [hat, t1]
  by_cases g : k < tx.length
  · rw [if_pos g] at h
    rw [if_pos (by omega), zck_t (by omega), Int.toNat_natCast, t4 k g]
    exact h
  · rw [if_neg g] at h
    rw [if_neg (by omega)]
    exact h
theorem hr_in (ht : tM M tx) (k : Nat) : -9 ≤ hr tx k ∧ hr tx k ≤ 255 := by
  unfold hr
  split
  · next g =>
    have := ht.2.2.1 (tx.getD k 0) (by rw [List.getD_eq_getElem?_getD, List.getElem?_eq_getElem g]; exact List.getElem_mem g)
    omega
  · omega
theorem e_mo_isSign {k : Nat} (ht : tM M tx) (hat : M 112 18 = (k : Int)) (h : Q (if ltr (hr tx k) then 1 else 0) (SH, M, L)) : zEv (d + 2) m_mo_isSign [zR 112] (SH, M, L) Q := by
  refine b_mo_isSign (g_mo_isSign_0 (e_mo_here ht hat (g_mo_isSign_4 (e_mo_isIn (g_mo_isSign_11 ?_)))))
  by_cases g : ltr (hr tx k)
  · rw [if_pos g] at h
    rw [if_pos (by omega)]; exact h
  · rw [if_neg g] at h
    rw [if_neg (by omega)]; exact h
theorem e_mo_fails (h : ∀ M', M' 112 19 = (if M 112 19 = -9 then M 112 18 else M 112 19) → M' 112 18 = M 112 18 → pF M M' → (∀ c, c ≠ 112 → M' c = M c) → M' 112 21 = M 112 21 → Q 0 (SH, M', L)) : zEv (d + 1) m_mo_fails [zR 112] (SH, M, L) Q := by
  refine b_mo_fails (g_mo_fails_0 (zif_c (fun g => ?_) (fun g => ?_)))
  · exact h _ (by rw [zmu_s, if_pos g]) (zmu_j (by decide)) (pF_112 (by omega)) (fun c hc => zmu_kf hc) (zmu_j (by decide))
  · exact h M (by rw [if_neg g]) rfl pF.r0 (fun _ _ => rfl) rfl
/-- the text from a rule's beginning on -/
def rl2 (tx : List Int) (k : Nat) (rk : Bool) (st : Nat) (f : Int) (ds : List zRu) : Int ⊕ List zRu := rlA (tx.drop k) k st rk f ds
theorem rl2_hr {k st : Nat} {rk : Bool} {f : Int} {ds : List zRu} (ht : ∀ c ∈ tx, 0 ≤ c ∧ c ≤ 255) (hk : k ≤ tx.length) (hs : st ≤ 2) : rl2 tx k rk st f ds = if st = 0 ∧ hr tx k = 60 then rl2 tx (k + 1) true 1 f ds else if st ≤ 1 ∧ ltr (hr tx k) then rl2 tx (k + 1) rk 2 (hr tx k - 97) ds else if st = 2 ∧ ltr (hr tx k) ∧ hr tx k - 97 ≠ f then rl2 tx (k + 1) rk 3 f (ds ++ [(rk, f, hr tx k - 97)]) else Sum.inl (-1000 - (k : Int)) := by
  unfold rl2 hr
  by_cases g : k < tx.length
  · have hd : tx.drop k = tx.getD k 0 :: tx.drop (k + 1) := by
      rw [List.drop_eq_getElem_cons g, List.getD_eq_getElem?_getD, List.getElem?_eq_getElem g]; rfl
    rw [hd, rlA_cons, if_pos g]
    by_cases c1 : st = 0 ∧ tx.getD k 0 = 60
    · rw [if_pos c1, if_pos c1]
    · rw [if_neg c1, if_neg c1]
      by_cases c2 : st ≤ 1 ∧ ltr (tx.getD k 0)
      · rw [if_pos c2, if_pos c2]
      · rw [if_neg c2, if_neg c2]
        by_cases c3 : st = 2 ∧ ltr (tx.getD k 0) ∧ tx.getD k 0 - 97 ≠ f
        · rw [if_pos c3, if_pos c3]
        · rw [if_neg c3, if_neg c3, if_neg (by omega)]
  · rw [if_neg g, List.drop_of_length_le (by omega), if_neg (by omega), if_neg (by omega), if_neg (by omega)]
    show (if st = 3 then _ else _) = _
    rw [if_neg (by omega)]
theorem hr_lt {k : Nat} (h : ltr (hr tx k) ∨ hr tx k = 60 ∨ hr tx k = 44) : k < tx.length := by
  unfold hr at h
  by_cases g : k < tx.length
  · exact g
  · rw [if_neg g] at h; omega
/-- the rules that stand in cell 126 -/
def ruM (M : zM) (ds : List zRu) : Prop := ∀ i, i < ds.length → M 126 (3 * i) = bI (ds.getD i (false, 0, 0)).1 ∧ M 126 (3 * i + 1) = (ds.getD i (false, 0, 0)).2.1 ∧ M 126 (3 * i + 2) = (ds.getD i (false, 0, 0)).2.2
/-- one rule -/
theorem e_mo_rule {k : Nat} {f : Int} {ds : List zRu} {M0 : zM} (ht : tM M tx) (hat : M 112 18 = (k : Int)) (hft : M 112 19 = -9) (hk : k ≤ tx.length) (hn : 3 * ds.length ≤ k) (hru : ruM M ds) (hpf : pF M0 M)
    (h0 : ∀ (x : Nat) (M' : zM), rl2 tx k false 0 f ds = Sum.inl (-1000 - (x : Int)) → M' 112 19 = (x : Int) → M' 112 18 = (x : Int) → pF M0 M' → Q 0 (SH, M', L))
    (h1 : ∀ (x : Nat) (f' : Int) (r : zRu) (rk' : Bool) (M' : zM), rl2 tx k false 0 f ds = rl2 tx x rk' 3 f' (ds ++ [r]) → ruOk r → k + 2 ≤ x → x ≤ tx.length → M' 112 18 = (x : Int) → M' 112 19 = -9 → ruM M' (ds ++ [r]) → pF M0 M' → Q 0 (SH, M', L)) : zEv (d + 4) m_mo_rule [zR 112, zI (ds.length : Int)] (SH, M, L) Q := by
  have t72 := ht.2.1
  have hrb := hr_in ht
  refine b_mo_rule (g_mo_rule_0 (e_mo_here ht hat (g_mo_rule_11 ?_)))
  have hr0 := rl2_hr (k := k) (st := 0) (rk := false) (f := f) (ds := ds) ht.2.2.1 hk (by omega)
  -- the letters behind the sign
  have two : ∀ (k1 : Nat) (rk : Bool) (st : Nat) (M1 : zM), k ≤ k1 → st ≤ 1 → rl2 tx k false 0 f ds = (if ltr (hr tx k1) then rl2 tx (k1 + 1) rk 2 (hr tx k1 - 97) ds else Sum.inl (-1000 - (k1 : Int))) → k1 ≤ tx.length → M1 112 18 = (k1 : Int) → M1 112 19 = -9 → M1 126 (3 * ds.length) = bI rk → ruM M1 ds → pF M0 M1 → tM M1 tx → zEx (d + 4) m_mo_rule zb0 Q 41 ([zR 112, zI (ds.length : Int), zI 1], [], SH, M1, L) := by
    intro k1 rk st M1 hkk hst he hk1 a1 a2 a3 a4 a5 a6
    refine g_mo_rule_41 ?_
    rw [if_pos (by decide), if_pos a2]
    refine e_mo_isSign a6 a1 (g_mo_rule_59 ?_)
    by_cases g1 : ltr (hr tx k1)
    · have hl1 := hr_lt (Or.inl g1)
      rw [if_pos g1] at he
      rw [if_pos g1, if_neg (by decide), if_neg (by decide)]
      refine e_mo_here a6 a1 (g_mo_rule_105 ?_)
      have e1 : ∀ (j : Nat) (v : Int), zmu M1 126 j v 112 18 = (k1 : Int) := fun j v => by rw [zmu_k (by decide), a1]
      rw [e1]
      simp (disch := omega) only [zck_t, if_pos, if_neg, if_true, if_false, zwr_id, Int.toNat_natCast]
      rw [show (3 * (ds.length : Int) + 1).toNat = 3 * ds.length + 1 by omega, show ((k1 : Int) + 1) = ((k1 + 1 : Nat) : Int) by omega]
      have p2 : pF M1 (zmu (zmu M1 126 (3 * ds.length + 1) (hr tx k1 - 97)) 112 18 ((k1 + 1 : Nat) : Int)) := (pF_c (by omega)).tr (pF_112 (by omega))
      have b1 : zmu (zmu M1 126 (3 * ds.length + 1) (hr tx k1 - 97)) 112 18 ((k1 + 1 : Nat) : Int) 112 18 = ((k1 + 1 : Nat) : Int) := zmu_s
      have b2 : zmu (zmu M1 126 (3 * ds.length + 1) (hr tx k1 - 97)) 112 18 ((k1 + 1 : Nat) : Int) 112 19 = -9 := by rw [zmu_j (by decide), zmu_k (by decide), a2]
      have b3 : zmu (zmu M1 126 (3 * ds.length + 1) (hr tx k1 - 97)) 112 18 ((k1 + 1 : Nat) : Int) 126 (3 * ds.length) = bI rk := by rw [zmu_k (by decide), zmu_j (by omega), a3]
      have b4 : zmu (zmu M1 126 (3 * ds.length + 1) (hr tx k1 - 97)) 112 18 ((k1 + 1 : Nat) : Int) 126 (3 * ds.length + 1) = hr tx k1 - 97 := by rw [zmu_k (by decide), zmu_s]
      have b5 : ruM (zmu (zmu M1 126 (3 * ds.length + 1) (hr tx k1 - 97)) 112 18 ((k1 + 1 : Nat) : Int)) ds := fun i hi => by
        rw [zmu_kf (a := 126) (by decide), zmu_j (by omega), zmu_j (by omega), zmu_j (by omega)]
        exact a4 i hi
      generalize zmu (zmu M1 126 (3 * ds.length + 1) (hr tx k1 - 97)) 112 18 ((k1 + 1 : Nat) : Int) = M2 at p2 b1 b2 b3 b4 b5 ⊢
      have t2 := p2.t a6
      have hr2 := rl2_hr (k := k1 + 1) (st := 2) (rk := rk) (f := hr tx k1 - 97) (ds := ds) ht.2.2.1 (by omega) (by omega)
      rw [hr2, if_neg (by omega), if_neg (by omega)] at he
      rw [show (1 : Int) + 1 = 2 from rfl]
      refine g_mo_rule_41 ?_
      rw [if_pos (by decide), if_pos b2]
      refine e_mo_isSign t2 b1 (g_mo_rule_59 ?_)
      by_cases g2 : ltr (hr tx (k1 + 1))
      · have hl2 := hr_lt (Or.inl g2)
        rw [if_pos g2, if_neg (by decide), if_pos rfl]
        refine e_mo_here t2 b1 (g_mo_rule_71 ?_)
        simp (disch := omega) only [zck_t, if_pos, if_neg, if_true, if_false, zwr_id, Int.toNat_natCast]
        rw [show (3 * (ds.length : Int) + 1).toNat = 3 * ds.length + 1 by omega, b4]
        have hb2 := hrb (k1 + 1)
        by_cases g3 : hr tx (k1 + 1) - 97 = hr tx k1 - 97
        · rw [if_neg (fun z => z.2.2 g3)] at he
          rw [if_pos g3]
          refine e_mo_fails (fun M3 c1 c2 c3 _ _ => g_mo_rule_91 (h0 (k1 + 1) M3 he ?_ ?_ ((a5.tr p2).tr c3)))
          · rw [c1, if_pos b2, b1]
          · rw [c2, b1]
        · rw [if_pos ⟨rfl, g2, g3⟩] at he
          rw [if_neg g3]
          refine e_mo_here t2 b1 (g_mo_rule_105 ?_)
          have e2 : ∀ (j : Nat) (v : Int), zmu M2 126 j v 112 18 = ((k1 + 1 : Nat) : Int) := fun j v => by rw [zmu_k (by decide), b1]
          rw [e2]
          simp (disch := omega) only [zck_t, if_pos, if_neg, if_true, if_false, zwr_id, Int.toNat_natCast]
          rw [show (3 * (ds.length : Int) + 2).toNat = 3 * ds.length + 2 by omega]
          refine g_mo_rule_41 ?_
          rw [if_neg (by decide)]
          refine h1 (k1 + 1 + 1) (hr tx k1 - 97) (rk, hr tx k1 - 97, hr tx (k1 + 1) - 97) rk _ he ⟨by dsimp only; omega, by dsimp only; omega, by dsimp only; omega, by dsimp only; omega, by dsimp only; omega⟩ (by omega) (by omega) ?_ ?_ ?_ ((a5.tr p2).tr ((pF_c (by omega)).tr (pF_112 (by omega))))
          · rw [zmu_s]; omega
          · rw [zmu_j (by decide), zmu_k (by decide), b2]
          · intro i hi
            rw [List.length_append, List.length_singleton] at hi
            rw [zmu_kf (a := 126) (by decide), getD_snoc]
            by_cases z : i = ds.length
            · subst z
              rw [if_neg (by omega), if_pos rfl, zmu_j (by omega), zmu_j (by omega), zmu_s]
              exact ⟨b3, b4, rfl⟩
            · rw [if_pos (by omega), zmu_j (by omega), zmu_j (by omega), zmu_j (by omega)]
              exact b5 i (by omega)
      · rw [if_neg (fun z => g2 z.2.1)] at he
        rw [if_neg g2, if_pos rfl]
        refine e_mo_fails (fun M3 c1 c2 c3 _ _ => g_mo_rule_91 (h0 (k1 + 1) M3 he ?_ ?_ ((a5.tr p2).tr c3)))
        · rw [c1, if_pos b2, b1]
        · rw [c2, b1]
    · rw [if_neg g1] at he
      rw [if_neg g1, if_pos rfl]
      refine e_mo_fails (fun M3 c1 c2 c3 _ _ => g_mo_rule_91 (h0 k1 M3 he ?_ ?_ (a5.tr c3)))
      · rw [c1, if_pos a2, a1]
      · rw [c2, a1]
  have e3 : zwr (3 * (ds.length : Int)) = 3 * (ds.length : Int) := zwr_id (by omega) (by omega)
  have e4 : (3 * (ds.length : Int)).toNat = 3 * ds.length := by omega
  rw [e3]
  simp only [e4]
  have e5 : ∀ (v w : Int), zmu M 126 (3 * ds.length) v 112 18 + w = (k : Int) + w := fun v w => by rw [zmu_k (by decide), hat]
  simp only [e5, zmu_s]
  have keep : ∀ (v w : Int), ruM (zmu (zmu M 126 (3 * ds.length) v) 112 18 w) ds := fun v w i hi => by
    rw [zmu_kf (a := 126) (by decide), zmu_j (by omega), zmu_j (by omega), zmu_j (by omega)]
    exact hru i hi
  have pf2 : ∀ (v w : Int), pF M (zmu (zmu M 126 (3 * ds.length) v) 112 18 w) := fun v w => (pF_c (by omega)).tr (pF_112 (by omega))
  by_cases g : hr tx k = 60
  · have hl0 := hr_lt (Or.inr (Or.inl g))
    rw [if_pos ⟨rfl, g⟩] at hr0
    rw [if_pos g, zck_t (by omega), zck_t (by omega), zwr_id (by omega) (by omega), show ((k : Int) + 1) = ((k + 1 : Nat) : Int) by omega]
    have hr1 := rl2_hr (k := k + 1) (st := 1) (rk := true) (f := f) (ds := ds) ht.2.2.1 (by omega) (by omega)
    rw [if_neg (by omega)] at hr1
    refine two (k + 1) true 1 _ (by omega) (by omega) ?_ (by omega) zmu_s (by rw [zmu_j (by decide), zmu_k (by decide), hft]) (by rw [zmu_k (by decide), zmu_s]; rfl) (keep _ _) (hpf.tr (pf2 _ _)) ((pf2 _ _).t ht)
    rw [hr0, hr1]
    by_cases g1 : ltr (hr tx (k + 1))
    · rw [if_pos ⟨by omega, g1⟩, if_pos g1]
    · rw [if_neg (fun z => g1 z.2), if_neg (by omega), if_neg g1]
  · rw [if_neg (fun z => g z.2)] at hr0
    rw [if_neg g, zck_t (by omega), zck_t (by omega), zwr_id (by omega) (by omega), Int.add_zero]
    refine two k false 0 _ (by omega) (by omega) ?_ hk zmu_s (by rw [zmu_j (by decide), zmu_k (by decide), hft]) (by rw [zmu_k (by decide), zmu_s]; rfl) (keep _ _) (hpf.tr (pf2 _ _)) ((pf2 _ _).t ht)
    rw [hr0]
    by_cases g1 : ltr (hr tx k)
    · rw [if_pos ⟨by omega, g1⟩, if_pos g1]
    · rw [if_neg (fun z => g1 z.2), if_neg (by omega), if_neg g1]
end RV
