/-! rules, by the reference: all of them -/
section RW
variable {d : Nat} {M M' L : zM} {Q : Int → zW → Prop} {P R : Nat → Nat} {ws : List (List Int)} {tx : List Int} {hs : List zLw} {kp : zKp} {ls : Nat → Option (List Int)} {rf : Nat → Int}
theorem rl2_3 {k : Nat} {rk : Bool} {f : Int} {ds : List zRu} (hk : k ≤ tx.length) : rl2 tx k rk 3 f ds = if hr tx k = 44 then rl2 tx (k + 1) false 0 f ds else if k < tx.length then Sum.inl (-1000 - (k : Int)) else Sum.inr ds := by
  unfold rl2 hr
  by_cases g : k < tx.length
  · have hd : tx.drop k = tx.getD k 0 :: tx.drop (k + 1) := by
      rw [List.drop_eq_getElem_cons g, List.getD_eq_getElem?_getD, List.getElem?_eq_getElem g]; rfl
    rw [hd, rlA_cons, if_pos g, if_neg (by omega), if_neg (by omega), if_neg (by omega), if_pos g]
    by_cases c : tx.getD k 0 = 44
    · rw [if_pos ⟨rfl, c⟩, if_pos c]
    · rw [if_neg (fun z => c z.2), if_neg c]
  · rw [if_neg g, if_neg g, List.drop_of_length_le (by omega), if_neg (by omega)]
    rfl
theorem mo_rules_loop {M0 : zM} (ht0 : tM M0 tx)
    (h0 : ∀ (x : Nat) (M' : zM), rlA tx 0 0 false (-9) [] = Sum.inl (-1000 - (x : Int)) → M' 112 7 = 0 → (∀ c, c ≠ 112 → c ≠ 126 → c ≠ 127 → M' c = M0 c) → (∀ j, j ≠ 7 → j ≠ 18 → j ≠ 19 → j ≠ 21 → M' 112 j = M0 112 j) → Q (-1000 - (x : Int)) (SH, M', L))
    (h1 : ∀ (ds : List zRu) (x2 : Int) (M' : zM), rlA tx 0 0 false (-9) [] = Sum.inr ds → (∀ r ∈ ds, ruOk r) → ds.length ≤ 72 → ruM M' ds → M' 112 7 = 0 → (∀ c, c ≠ 112 → c ≠ 126 → c ≠ 127 → M' c = M0 c) → (∀ j, j ≠ 7 → j ≠ 18 → j ≠ 19 → j ≠ 21 → M' 112 j = M0 112 j) → zEv (d + 5) m_mo_remembers [zR 112] (SH, M', L) (fun _ w => zEx (d + 6) m_mo_rules zb0 Q 114 ([zR 112, zI (ds.length : Int), zI x2, zN], [], w))) :
    ∀ (m k : Nat) (f : Int) (ds : List zRu) (Mk : zM), tx.length + 1 - k ≤ m → k ≤ tx.length → 3 * ds.length ≤ k → (∀ r ∈ ds, ruOk r) → rlA tx 0 0 false (-9) [] = rl2 tx k false 0 f ds → Mk 112 18 = (k : Int) → Mk 112 19 = -9 → ruM Mk ds → pF M0 Mk → zEx (d + 6) m_mo_rules zb0 Q 15 ([zR 112, zI (ds.length : Int), zI 1, zN], [], SH, Mk, L) := by
  have t72 := ht0.2.1
  have e87 : ∀ (x : Nat) (n x2 : Int) (M1 : zM), rlA tx 0 0 false (-9) [] = Sum.inl (-1000 - (x : Int)) → x ≤ 72 → M1 112 19 = (x : Int) → pF M0 M1 → zEx (d + 6) m_mo_rules zb0 Q 87 ([zR 112, zI n, zI x2, zN], [], SH, M1, L) := by
    intro x n x2 M1 he hx a1 a2
    refine g_mo_rules_87 ?_
    rw [zmu_j (by decide), a1, if_neg (by omega), zwr_id (by omega) (by omega)]
    exact h0 x _ he zmu_s (fun c b1 b2 b3 => by rw [zmu_kf b1]; exact a2.1 c b1 b2 b3) (fun j b0 b1 b2 b3 => by rw [zmu_j b0]; exact a2.2 j b1 b2 b3)
  intro m
  induction m with
  | zero => intro k f ds Mk hm hk; omega
  | succ m ih =>
    intro k f ds Mk hm hk hn hds he hat hft hru hpf
    refine g_mo_rules_15 ?_
    rw [if_neg (by decide)]
    refine e_mo_rule (d := d + 1) (f := f) (M0 := M0) (hpf.t ht0) hat hft hk hn hru hpf (fun x M1 hx a1 a2 a3 => g_mo_rules_24 ?_) (fun x f' r rk' M1 hx hr1 hx1 hx2 a1 a2 a3 a4 => g_mo_rules_24 ?_)
    · rw [a1, if_neg (by omega), a2, Int.add_zero]
      have hxl : x ≤ 72 := by
        have hxx : rlA tx 0 0 false (-9) [] = Sum.inl (-1000 - (x : Int)) := he.trans hx
        have key : ∀ (t : List Int) (k st : Nat) (rk : Bool) (f : Int) (ds : List zRu) (y : Int), rlA t k st rk f ds = Sum.inl y → -1000 - ((k + t.length : Nat) : Int) ≤ y := by
          intro t
          induction t with
          | nil =>
            intro k st rk f ds y h
            unfold rlA at h
            split at h
            · cases h
            · cases h; simp
          | cons c t iht =>
            intro k st rk f ds y h
            rw [rlA_cons] at h
            rw [List.length_cons]
            repeat' split at h
            · have := iht _ _ _ _ _ _ h; omega
            · have := iht _ _ _ _ _ _ h; omega
            · have := iht _ _ _ _ _ _ h; omega
            · have := iht _ _ _ _ _ _ h; omega
            · cases h; omega
        have := key _ _ _ _ _ _ _ hxx
        omega
      have p3 : pF M0 (zmu M1 112 18 (zwr (x : Int))) := a3.tr (pF_112 (by omega))
      have f3 : zmu M1 112 18 (zwr (x : Int)) 112 19 = (x : Int) := by rw [zmu_j (by decide), a1]
      refine g_mo_rules_15 ?_
      rw [if_pos rfl]
      refine zif_c (fun g => e_mo_fails (fun M3 c1 c2 c3 _ _ => ?_)) (fun g => e87 x _ _ _ (he.trans hx) hxl f3 p3)
      refine e87 x _ _ M3 (he.trans hx) hxl ?_ (p3.tr c3)
      rw [c1, f3, if_neg (by omega)]
    · have t1 := a4.t ht0
      rw [a2, if_pos rfl]
      have r3 := rl2_3 (rk := rk') (f := f') (ds := ds ++ [r]) hx2
      have he2 := he.trans hx
      rw [r3] at he2
      have hlen : zwr ((ds.length : Int) + 1) = (((ds ++ [r]).length : Nat) : Int) := by rw [zwr_id (by omega) (by omega), List.length_append, List.length_singleton]; omega
      have hds2 : ∀ q ∈ ds ++ [r], ruOk q := fun q hq => by
        rcases List.mem_append.mp hq with z | z
        · exact hds q z
        · rw [List.mem_singleton.mp z]; exact hr1
      rw [hlen]
      refine e_mo_here t1 a1 (g_mo_rules_40 ?_)
      rw [a1]
      by_cases g : hr tx x = 44
      · have hl0 := hr_lt (Or.inr (Or.inr g))
        rw [if_pos g] at he2
        rw [if_pos g, zwr_id (by omega) (by omega), show ((x : Int) + 1) = ((x + 1 : Nat) : Int) by omega]
        exact ih (x + 1) f' (ds ++ [r]) _ (by omega) (by omega) (by rw [List.length_append, List.length_singleton]; omega) hds2 he2 zmu_s (by rw [zmu_j (by decide), a2]) (fun i hi => by rw [zmu_kf (a := 126) (by decide)]; exact a3 i hi) (a4.tr (pF_112 (by omega)))
      · rw [if_neg g] at he2
        rw [if_neg g, Int.add_zero, zwr_id (by omega) (by omega)]
        have p3 : pF M0 (zmu M1 112 18 (x : Int)) := a4.tr (pF_112 (by omega))
        have f3 : zmu M1 112 18 (x : Int) 112 19 = -9 := by rw [zmu_j (by decide), a2]
        have t3 := p3.t ht0
        refine g_mo_rules_15 ?_
        rw [if_pos rfl, zmu_s, t3.1]
        by_cases g2 : x < tx.length
        · rw [if_pos g2] at he2
          rw [if_pos (by omega)]
          refine e_mo_fails (fun M3 c1 c2 c3 _ _ => e87 x _ _ M3 he2 (by omega) ?_ (p3.tr c3))
          rw [c1, f3, if_pos rfl, zmu_s]
        · rw [if_neg g2] at he2
          rw [if_neg (by omega)]
          refine g_mo_rules_87 ?_
          rw [zmu_j (by decide), f3, if_pos rfl]
          refine h1 (ds ++ [r]) 0 _ he2 hds2 (by rw [List.length_append, List.length_singleton]; omega) (fun i hi => ?_) zmu_s (fun c b1 b2 b3 => by rw [zmu_kf b1]; exact p3.1 c b1 b2 b3) (fun j b0 b1 b2 b3 => by rw [zmu_j b0]; exact p3.2 j b1 b2 b3)
          rw [zmu_kf (a := 126) (by decide), zmu_kf (a := 126) (by decide)]
          exact a3 i hi
theorem mo_apply_loop {x2 : Int} {ds : List zRu} (hds : ∀ r ∈ ds, ruOk r) (h72 : ds.length ≤ 72) (ho : lOk P R) {M0 : zM} (hru : ruM M0 ds) (h : ∀ M', lIs M' 112 (ds.foldl apR (P, R)).1 (ds.foldl apR (P, R)).2 → lFr M0 M' 112 → Q (ds.length : Int) (SH, M', L)) :
    ∀ (n i : Nat) (Mk : zM), i + n = ds.length → lIs Mk 112 ((ds.take i).foldl apR (P, R)).1 ((ds.take i).foldl apR (P, R)).2 → lFr M0 Mk 112 → zEx (d + 2) m_mo_rules zb0 Q 116 ([zR 112, zI (ds.length : Int), zI x2, zI (i : Int)], [], SH, Mk, L) := by
  intro n
  induction n with
  | zero =>
    intro i Mk hi hl hf
    refine g_mo_rules_116 ?_
    rw [if_neg (by omega)]
    rw [List.take_of_length_le (by omega)] at hl
    exact h Mk hl hf
  | succ n ih =>
    intro i Mk hi hl hf
    have hil : i < ds.length := by omega
    have hmem : ds.getD i (false, 0, 0) ∈ ds := by rw [List.getD_eq_getElem?_getD, List.getElem?_eq_getElem hil]; exact List.getElem_mem hil
    have hro := hds _ hmem
    have htk : ds.take (i + 1) = ds.take i ++ [ds.getD i (false, 0, 0)] := by
      rw [List.take_succ, List.getElem?_eq_getElem hil, List.getD_eq_getElem?_getD, List.getElem?_eq_getElem hil]; rfl
    have e := fun M' => ih (i + 1) M' (by omega)
    rw [htk, List.foldl_append] at e
    have lo : lOk ((ds.take i).foldl apR (P, R)).1 ((ds.take i).foldl apR (P, R)).2 := apRs_ok _ (p := (P, R)) ho (fun q hq => hds q (List.mem_of_mem_take hq))
    obtain ⟨u1, u2, u3⟩ := hru i hil
    generalize ds.getD i (false, 0, 0) = r at *
    obtain ⟨r1, r2, r3, r4, r5⟩ := hro
    refine g_mo_rules_116 ?_
    have e126 : Mk 126 = M0 126 := hf 126 (by decide) (by decide)
    rw [e126]
    simp (disch := omega) only [zck_t, if_pos, if_neg, if_true, if_false, zwr_id, Int.toNat_natCast]
    rw [show (3 * (i : Int)).toNat = 3 * i by omega, show (3 * (i : Int) + 1).toNat = 3 * i + 1 by omega, show (3 * (i : Int) + 2).toNat = 3 * i + 2 by omega, u1, u2, u3]
    have e : ∀ M', lIs M' 112 (apR ((ds.take i).foldl apR (P, R)) r).1 (apR ((ds.take i).foldl apR (P, R)) r).2 → lFr M0 M' 112 → zEx (d + 2) m_mo_rules zb0 Q 116 ([zR 112, zI (ds.length : Int), zI x2, zI ((i + 1 : Nat) : Int)], [], SH, M', L) := e
    obtain ⟨rk, a, b⟩ := r
    have tr : ∀ M1, lFr Mk M1 112 → lFr M0 M1 112 := fun M1 f1 k a b => (f1 k a b).trans (hf k a b)
    cases rk
    · refine zif_f (show ¬ bI false = 1 by decide) (e_mo_turns (d := d) hl lo ⟨r1, r2⟩ ⟨r3, r4⟩ r5 (fun M1 g1 f1 => g_mo_rules_184 ?_))
      rw [zwr_id (by omega) (by omega), show ((i : Int) + 1) = ((i + 1 : Nat) : Int) by omega]
      exact e M1 g1 (tr M1 f1)
    · refine zif_t (show bI true = 1 by decide) (e_mo_swaps (d := d) hl ⟨r1, r2⟩ ⟨r3, r4⟩ (fun M1 g1 f1 => g_mo_rules_157 (g_mo_rules_184 ?_)))
      rw [zwr_id (by omega) (by omega), show ((i : Int) + 1) = ((i + 1 : Nat) : Int) by omega]
      exact e M1 g1 (tr M1 f1)
theorem c_mo_rules (hI : iM M P R ws tx hs kp ls rf) (h : ∀ M1 L1, jM M1 (opRules P R ws tx hs kp ls rf).1 → aC M M1 → Q (opRules P R ws tx hs kp ls rf).2 (SH, M1, L1)) : zEv (d + 9) m_mo_rules [zR 112] (SH, M, L) Q := by
  unfold opRules at h
  refine b_mo_rules (g_mo_rules_0 ?_)
  have p1 : pF M (zmu (zmu M 112 18 0) 112 19 (-9)) := (pF_112 (by omega)).tr (pF_112 (by omega))
  have cl : ∀ M', M' 112 7 = 0 → (∀ c, c ≠ 112 → c ≠ 126 → c ≠ 127 → M' c = M c) → (∀ j, j ≠ 7 → j ≠ 18 → j ≠ 19 → j ≠ 21 → M' 112 j = M 112 j) → iM M' P R ws [] hs kp ls rf := fun M' a1 a2 a3 =>
    hI.xt (S := [126, 127]) (T := [7, 18, 19, 21]) (fun k hk h112 => by simp at hk; exact a2 k h112 hk.1 hk.2) (fun j hj => by simp at hj; exact a3 j hj.1 hj.2.1 hj.2.2.1 hj.2.2.2) (by decide) (by decide) ⟨a1, by simp, ⟨fun c hc => (by cases hc), fun j hj => (by simp at hj)⟩⟩
  refine mo_rules_loop (d := d + 3) (tx := tx) (M0 := M) hI.t (fun x M1 hx a1 a2 a3 => ?_) (fun ds x2 M1 hx hds h72 hru a1 a2 a3 => ?_) (tx.length + 1) 0 (-9) [] _ (by omega) (by omega) (by simp) (fun r hr => by cases hr) rfl (by rw [zmu_j (by decide), zmu_s]; rfl) zmu_s (fun i hi => by simp at hi) p1
  · have h := h
    rw [hx] at h
    exact h M1 L (cl M1 a1 a2 a3) (fun k hk => a2 k (by omega) (by omega) (by omega))
  · have h := h
    rw [hx] at h
    have I1 := cl M1 a1 a2 a3
    refine e_mo_remembers I1.h I1.l (fun M2 g2 f2 t2 => g_mo_rules_114 ?_)
    have hru2 : ruM M2 ds := fun i hi => by rw [f2 126 (by decide)]; exact hru i hi
    refine mo_apply_loop (d := d + 7) hds h72 hI.lo hru2 (fun M3 g3 f3 => ?_) ds.length 0 M2 (by omega) (f2.law I1.l (by decide) (by decide)) lFr.rf
    refine h M3 L (I1.lx (S := [113, 114, 119]) (T := [8]) (fun k hk h112 => ?_) (fun j hj => ?_) (by decide) (by decide) g3 (apRs_ok ds (p := (P, R)) hI.lo hds) (g2.of (by rw [f3 112 (by decide) (by decide)]) (f3 119 (by decide) (by decide)))) (fun k hk => ?_)
    · simp at hk
      rw [f3 k (by omega) (by omega), f2 k (by simp; omega)]
    · rw [f3 112 (by decide) (by decide), t2 j (by simpa using hj)]
    · rw [f3 k (by omega) (by omega), f2 k (by simp; omega), a2 k (by omega) (by omega) (by omega)]
end RW
