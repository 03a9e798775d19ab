/-! rules -/
abbrev zRu : Type := Bool × Int × Int
abbrev ltr (c : Int) : Prop := 97 ≤ c ∧ c < 103
/-- the text read as rules: a fault, or the rules -/
def rlA : List Int → Nat → Nat → Bool → Int → List zRu → Int ⊕ List zRu
  | [], k, st, _, _, ds => if st = 3 then Sum.inr ds else Sum.inl (-1000 - (k : Int))
  | c :: t, k, st, rk, f, ds => if st = 0 ∧ c = 60 then rlA t (k + 1) 1 true f ds else if st ≤ 1 ∧ ltr c then rlA t (k + 1) 2 rk (c - 97) ds else if st = 2 ∧ ltr c ∧ c - 97 ≠ f then rlA t (k + 1) 3 rk f (ds ++ [(rk, f, c - 97)]) else if st = 3 ∧ c = 44 then rlA t (k + 1) 0 false f ds else Sum.inl (-1000 - (k : Int))
def apR (p : zLw) (r : zRu) : zLw := if r.1 then (p.1, swR p.2 r.2.1.toNat r.2.2.toNat) else (flP p.1 r.2.1.toNat r.2.2.toNat, p.2)
def ruOk (r : zRu) : Prop := 0 ≤ r.2.1 ∧ r.2.1 < 6 ∧ 0 ≤ r.2.2 ∧ r.2.2 < 6 ∧ r.2.1 ≠ r.2.2
theorem apR_ok {p : zLw} {r : zRu} (h : lOk p.1 p.2) (hr : ruOk r) : lOk (apR p r).1 (apR p r).2 := by
  obtain ⟨h1, h2, h3, h4, h5⟩ := hr
  unfold apR
  split
  · exact swR_ok h (by omega) (by omega)
  · exact flP_ok h (by omega) (by omega) (by omega)
theorem apRs_ok : ∀ (ds : List zRu) {p : zLw}, lOk p.1 p.2 → (∀ r ∈ ds, ruOk r) → lOk (ds.foldl apR p).1 (ds.foldl apR p).2
  | [], p, h, _ => h
  | r :: ds, p, h, hd => apRs_ok ds (apR_ok h (hd r List.mem_cons_self)) (fun q hq => hd q (List.mem_cons_of_mem _ hq))
def opRules (P R : Nat → Nat) (ws : List (List Int)) (tx : List Int) (hs : List zLw) (kp : zKp) (ls : Nat → Option (List Int)) (rf : Nat → Int) : zSt × Int := match rlA tx 0 0 false (-9) [] with
  | Sum.inl f => sOk P R ws [] hs kp ls rf f
  | Sum.inr ds => sOk (ds.foldl apR (P, R)).1 (ds.foldl apR (P, R)).2 ws [] (((P, R) :: hs).take 8) kp ls rf ds.length
theorem rlA_cons {c : Int} {t : List Int} {k st : Nat} {rk : Bool} {f : Int} {ds : List zRu} : rlA (c :: t) k st rk f ds = if st = 0 ∧ c = 60 then rlA t (k + 1) 1 true f ds else if st ≤ 1 ∧ ltr c then rlA t (k + 1) 2 rk (c - 97) ds else if st = 2 ∧ ltr c ∧ c - 97 ≠ f then rlA t (k + 1) 3 rk f (ds ++ [(rk, f, c - 97)]) else if st = 3 ∧ c = 44 then rlA t (k + 1) 0 false f ds else Sum.inl (-1000 - (k : Int)) := rfl
section RU
variable {d : Nat} {M M' L : zM} {Q : Int → zW → Prop} {P R : Nat → Nat} {ws : List (List Int)} {tx : List Int} {hs : List zLw} {kp : zKp} {ls : Nat → Option (List Int)} {rf : Nat → Int}
theorem e_pa_isLetter {a : Int} (h : Q (if ltr a then 1 else 0) (SH, M, L)) : zEv (d + 1) m_pa_isLetter [zI a] (SH, M, L) Q := by
  refine b_pa_isLetter (g_pa_isLetter_0 (zif_c (fun q => ?_) (fun q => zif_c (fun g => ?_) (fun g => ?_))))
  · rw [if_neg (by omega)] at h; exact h
  · rw [if_pos (by omega)] at h; exact h
  · rw [if_neg (by omega)] at h; exact h
theorem e_pa_change {rk : Bool} {a b : Int} (hl : lIs M 4 P R) (ho : lOk P R) (hr : ruOk (rk, a, b)) (h : ∀ M', lIs M' 4 (apR (P, R) (rk, a, b)).1 (apR (P, R) (rk, a, b)).2 → cFr [5, 6] M M' → Q 0 (SH, M', L)) : zEv (d + 4) m_pa_change [zR 4, zI (bI rk), zI a, zI b] (SH, M, L) Q := by
  obtain ⟨r1, r2, r3, r4, r5⟩ := hr
  refine b_pa_change (g_pa_change_0 zLaw_4 ?_)
  cases rk
  · refine zif_t rfl (e_la_flip zLaw_4 hl ho ⟨r1, r2⟩ ⟨r3, r4⟩ r5 (fun M1 g1 f1 => g_pa_change_19 zLaw_4 (h M1 g1 (f1.c (by decide) (by decide)))))
  · refine zif_f (by decide) (e_la_swapRanks zLaw_4 hl ⟨r1, r2⟩ ⟨r3, r4⟩ r5 (fun M1 g1 f1 => g_pa_change_10 zLaw_4 (g_pa_change_19 zLaw_4 (h M1 g1 (f1.c (by decide) (by decide))))))
/-- what the class knows while it reads -/
def fOk (st : Nat) (f : Int) : Prop := st = 2 → 0 ≤ f ∧ f < 6
theorem pa_rules_loop {M0 : zM} (ht : rIs M0 64 tx) (h255 : ∀ c ∈ tx, 0 ≤ c ∧ c ≤ 255) (ho : lOk P R)
    (h0 : ∀ f, rlA tx 0 0 false (-9) [] = Sum.inl f → ∀ M', cFr [5, 6] M0 M' → Q f (SH, M', L))
    (h1 : ∀ ds, rlA tx 0 0 false (-9) [] = Sum.inr ds → (∀ r ∈ ds, ruOk r) → 0 < ds.length → ∀ M', lIs M' 4 (ds.foldl apR (P, R)).1 (ds.foldl apR (P, R)).2 → cFr [5, 6] M0 M' → Q (ds.length : Int) (SH, M', L)) :
    ∀ (t : List Int) (k st : Nat) (rk : Bool) (f : Int) (ds : List zRu) (Mk : zM) (v8 v9 : zV), tx.drop k = t → k ≤ tx.length → st ≤ 3 → fOk st f → ds.length ≤ k → (st = 3 → 0 < ds.length) → (∀ r ∈ ds, ruOk r) → rlA tx 0 0 false (-9) [] = rlA t k st rk f ds → lIs Mk 4 (ds.foldl apR (P, R)).1 (ds.foldl apR (P, R)).2 → cFr [5, 6] M0 Mk →
      zEx (d + 5) m_pa_readRules zb0 Q 15 ([zR 66, zR 64, zR 4, zI (st : Int), zI (bI rk), zI f, zI (ds.length : Int), zI (k : Int), v8, v9], [], SH, Mk, L) := by
  have h72 : tx.length ≤ 72 := by have := ht.2.2; rw [show zln SH (64 + 1) = 72 from zl_65] at this; omega
  intro t
  induction t with
  | nil =>
    intro k st rk f ds Mk v8 v9 hd hk hst hfo hdk h3 hds he hl hf
    have htk := hf.row ht (by decide) (by decide)
    have hkl : tx.length ≤ k := by have := congrArg List.length hd; simp at this; omega
    refine g_pa_readRules_15 zRow_64 zLaw_4 (e_ro_size zRow_64 htk (g_pa_readRules_21 zRow_64 zLaw_4 ?_))
    rw [if_neg (by omega)]
    by_cases g : st = 3
    · rw [if_pos (by omega)]
      have he : rlA tx 0 0 false (-9) [] = Sum.inr ds := by rw [he]; show (if st = 3 then _ else _) = _; rw [if_pos g]
      exact h1 ds he hds (h3 g) Mk hl hf
    · rw [if_neg (by omega)]
      refine e_ro_size zRow_64 htk (g_pa_readRules_179 zRow_64 zLaw_4 ?_)
      have he : rlA tx 0 0 false (-9) [] = Sum.inl (-1000 - (k : Int)) := by rw [he]; show (if st = 3 then _ else _) = _; rw [if_neg g]
      rw [zwr_id (by omega) (by omega), show (tx.length : Int) = (k : Int) by omega]
      exact h0 _ he Mk hf
  | cons c t ih =>
    intro k st rk f ds Mk v8 v9 hd hk hst hfo hdk h3 hds he hl hf
    have htk := hf.row ht (by decide) (by decide)
    obtain ⟨q1, q2, q3⟩ := drop_cons hd
    have hc : 0 ≤ c ∧ c ≤ 255 := by
      refine h255 c ?_
      have : c ∈ tx.drop k := by rw [hd]; exact List.mem_cons_self
      exact List.mem_of_mem_drop this
    rw [rlA_cons] at he
    refine g_pa_readRules_15 zRow_64 zLaw_4 (e_ro_size zRow_64 htk (g_pa_readRules_21 zRow_64 zLaw_4 ?_))
    rw [if_pos (by omega)]
    refine e_ro_get zRow_64 htk ?_
    rw [rget_in (by omega), Int.toNat_natCast, q1]
    refine g_pa_readRules_30 zRow_64 zLaw_4 (e_pa_isLetter (g_pa_readRules_37 zRow_64 zLaw_4 ?_))
    have go := fun (st' : Nat) (rk' : Bool) (f' : Int) (ds' : List zRu) (M' : zM) (v8 v9 : zV) => ih (k + 1) st' rk' f' ds' M' v8 v9 q2 (by omega)
    have fault : rlA tx 0 0 false (-9) [] = Sum.inl (-1000 - (k : Int)) → Q (-1000 - (k : Int)) (SH, Mk, L) := fun z => h0 _ z Mk hf
    have hst4 : st = 0 ∨ st = 1 ∨ st = 2 ∨ st = 3 := by omega
    by_cases gl : ltr c
    · rw [if_pos gl]
      rcases hst4 with e | e | e | e
      · subst e
        rw [if_neg (by omega), if_pos ⟨by omega, gl⟩] at he
        simp (disch := omega) only [zck_t, if_pos, if_neg, if_true, if_false, zwr_id, Int.toNat_natCast]
        rw [show ((k : Int) + 1) = ((k + 1 : Nat) : Int) by omega]
        exact go 2 rk (c - 97) ds Mk _ _ (by omega) (fun _ => by omega) (by omega) (by omega) hds he hl hf
      · subst e
        rw [if_neg (by omega), if_pos ⟨by omega, gl⟩] at he
        simp (disch := omega) only [zck_t, if_pos, if_neg, if_true, if_false, zwr_id, Int.toNat_natCast]
        rw [show ((k : Int) + 1) = ((k + 1 : Nat) : Int) by omega]
        exact go 2 rk (c - 97) ds Mk _ _ (by omega) (fun _ => by omega) (by omega) (by omega) hds he hl hf
      · subst e
        have hf6 := hfo rfl
        by_cases g2 : c - 97 = f
        · rw [if_neg (by omega), if_neg (by omega), if_neg (by omega), if_neg (by omega)] at he
          simp (disch := omega) only [zck_t, if_pos, if_neg, if_true, if_false, zwr_id, Int.toNat_natCast]
          exact fault he
        · rw [if_neg (by omega), if_neg (by omega), if_pos ⟨rfl, gl, g2⟩] at he
          simp (disch := omega) only [zck_t, if_pos, if_neg, if_true, if_false, zwr_id, Int.toNat_natCast]
          have hru : ruOk (rk, f, c - 97) := ⟨by dsimp only; omega, by dsimp only; omega, by dsimp only; omega, by dsimp only; omega, by dsimp only; omega⟩
          refine e_pa_change (P := (ds.foldl apR (P, R)).1) (R := (ds.foldl apR (P, R)).2) hl (apRs_ok ds ho hds) hru (fun M1 g1 f1 => g_pa_readRules_121 zRow_64 zLaw_4 ?_)
          simp (disch := omega) only [zck_t, if_pos, if_neg, if_true, if_false, zwr_id, Int.toNat_natCast]
          rw [show ((k : Int) + 1) = ((k + 1 : Nat) : Int) by omega]
          have e2 := go 3 rk f (ds ++ [(rk, f, c - 97)]) M1 (zI c) (zI (c - 97)) (by omega) (fun z => by omega) (by simp; omega) (fun _ => by simp) (fun r hr => ?_) he ?_ (hf.tr f1)
          · rw [List.length_append, List.length_singleton, show ((ds.length + 1 : Nat) : Int) = (ds.length : Int) + 1 by omega] at e2
            exact e2
          · rcases List.mem_append.mp hr with z | z
            · exact hds r z
            · rw [List.mem_singleton.mp z]; exact hru
          · rw [List.foldl_append]; exact g1
      · subst e
        rw [if_neg (by omega), if_neg (by omega), if_neg (by omega), if_neg (by omega)] at he
        simp (disch := omega) only [zck_t, if_pos, if_neg, if_true, if_false, zwr_id, Int.toNat_natCast]
        exact fault he
    · rw [if_neg gl]
      rcases hst4 with e | e | e | e
      · subst e
        by_cases g2 : c = 60
        · rw [if_pos ⟨rfl, g2⟩] at he
          simp (disch := omega) only [zck_t, if_pos, if_neg, if_true, if_false, zwr_id, Int.toNat_natCast]
          rw [show ((k : Int) + 1) = ((k + 1 : Nat) : Int) by omega]
          exact go 1 true f ds Mk _ _ (by omega) (fun z => by omega) (by omega) (by omega) hds he hl hf
        · rw [if_neg (by omega), if_neg (by omega), if_neg (by omega), if_neg (by omega)] at he
          simp (disch := omega) only [zck_t, if_pos, if_neg, if_true, if_false, zwr_id, Int.toNat_natCast]
          exact fault he
      · subst e
        rw [if_neg (by omega), if_neg (by omega), if_neg (by omega), if_neg (by omega)] at he
        simp (disch := omega) only [zck_t, if_pos, if_neg, if_true, if_false, zwr_id, Int.toNat_natCast]
        exact fault he
      · subst e
        rw [if_neg (by omega), if_neg (by omega), if_neg (by omega), if_neg (by omega)] at he
        simp (disch := omega) only [zck_t, if_pos, if_neg, if_true, if_false, zwr_id, Int.toNat_natCast]
        exact fault he
      · subst e
        by_cases g2 : c = 44
        · rw [if_neg (by omega), if_neg (by omega), if_neg (by omega), if_pos ⟨rfl, g2⟩] at he
          simp (disch := omega) only [zck_t, if_pos, if_neg, if_true, if_false, zwr_id, Int.toNat_natCast]
          rw [show ((k : Int) + 1) = ((k + 1 : Nat) : Int) by omega]
          exact go 0 false f ds Mk _ _ (by omega) (fun z => by omega) (by omega) (by omega) hds he hl hf
        · rw [if_neg (by omega), if_neg (by omega), if_neg (by omega), if_neg (by omega)] at he
          simp (disch := omega) only [zck_t, if_pos, if_neg, if_true, if_false, zwr_id, Int.toNat_natCast]
          exact fault he
theorem rlA_fault : ∀ (t : List Int) (k st : Nat) (rk : Bool) (f x : Int) (ds : List zRu), rlA t k st rk f ds = Sum.inl x → x ≤ -1000
  | [], k, st, rk, f, x, ds, h => by
    unfold rlA at h
    split at h
    · cases h
    · cases h; omega
  | c :: t, k, st, rk, f, x, ds, h => by
    rw [rlA_cons] at h
    repeat' split at h
    · exact rlA_fault t _ _ _ _ _ _ h
    · exact rlA_fault t _ _ _ _ _ _ h
    · exact rlA_fault t _ _ _ _ _ _ h
    · exact rlA_fault t _ _ _ _ _ _ h
    · cases h; omega
theorem c_lt_rules (hI : iC M P R ws tx hs kp ls rf) (h : ∀ M1 L1, jC M1 (opRules P R ws tx hs kp ls rf).1 → aM M M1 → Q (opRules P R ws tx hs kp ls rf).2 (SH, M1, L1)) : zEv (d + 9) m_lt_rules [zR 0] (SH, M, L) Q := by
  unfold opRules at h
  refine b_lt_rules ?_
  (first | refine g_lt_rules_0 ?_ | refine g_lt_rules_11 ?_ | refine g_lt_rules_26 ?_ | refine g_lt_rules_34 ?_ | refine g_lt_rules_49 ?_ | refine g_lt_rules_60 ?_)
  refine e_la_copy zLaw_4 zLaw_1 (by omega) (by omega) (by omega) hI.l (fun M1 g1 f1 => ?_)
  have f1' : cFr [5, 6] M M1 := f1.c (by decide) (by decide)
  (first | refine g_lt_rules_0 ?_ | refine g_lt_rules_11 ?_ | refine g_lt_rules_26 ?_ | refine g_lt_rules_34 ?_ | refine g_lt_rules_49 ?_ | refine g_lt_rules_60 ?_)
  have ht1 := f1'.row hI.t.1 (by decide) (by decide)
  refine b_pa_readRules (g_pa_readRules_0 zRow_64 zLaw_4 (pa_rules_loop (d := d + 3) ht1 hI.t.2 hI.lo (fun x hx M2 f2 => ?_) (fun ds hx hds hd0 M2 g2 f2 => ?_) tx 0 0 false (-9) [] M1 zN zN rfl (by omega) (by omega) (fun z => by omega) (by simp) (fun z => by omega) (fun r hr => by cases hr) rfl g1 cFr.rf))
  · have h := h
    rw [hx] at h
    have hx9 := rlA_fault _ _ _ _ _ _ _ hx
    (first | refine g_lt_rules_0 ?_ | refine g_lt_rules_11 ?_ | refine g_lt_rules_26 ?_ | refine g_lt_rules_34 ?_ | refine g_lt_rules_49 ?_ | refine g_lt_rules_60 ?_)
    refine e_ro_clear zRow_64 (fun M3 g3 f3 => ?_)
    (first | refine g_lt_rules_0 ?_ | refine g_lt_rules_11 ?_ | refine g_lt_rules_26 ?_ | refine g_lt_rules_34 ?_ | refine g_lt_rules_49 ?_ | refine g_lt_rules_60 ?_)
    rw [if_neg (by omega)]
    (first | refine g_lt_rules_0 ?_ | refine g_lt_rules_11 ?_ | refine g_lt_rules_26 ?_ | refine g_lt_rules_34 ?_ | refine g_lt_rules_49 ?_ | refine g_lt_rules_60 ?_)
    have fa : cFr [5, 6, 64, 65] M M3 := ((f1'.up (by decide)).tr (f2.up (by decide))).tr (f3.c (by decide) (by decide))
    exact h M3 L (hI.xt fa (by decide) ⟨g3, fun c hc => by cases hc⟩) (fa.aM (by decide))
  · have h := h
    rw [hx] at h
    (first | refine g_lt_rules_0 ?_ | refine g_lt_rules_11 ?_ | refine g_lt_rules_26 ?_ | refine g_lt_rules_34 ?_ | refine g_lt_rules_49 ?_ | refine g_lt_rules_60 ?_)
    refine e_ro_clear zRow_64 (fun M3 g3 f3 => ?_)
    (first | refine g_lt_rules_0 ?_ | refine g_lt_rules_11 ?_ | refine g_lt_rules_26 ?_ | refine g_lt_rules_34 ?_ | refine g_lt_rules_49 ?_ | refine g_lt_rules_60 ?_)
    rw [if_pos (by omega)]
    have fa : cFr [5, 6, 64, 65] M M3 := ((f1'.up (by decide)).tr (f2.up (by decide))).tr (f3.c (by decide) (by decide))
    have I3 := hI.xt fa (by decide) ⟨g3, fun c hc => by cases hc⟩
    refine e_hi_remember I3.h I3.l hI.lo (fun M4 g4 f4 => ?_)
    (first | refine g_lt_rules_0 ?_ | refine g_lt_rules_11 ?_ | refine g_lt_rules_26 ?_ | refine g_lt_rules_34 ?_ | refine g_lt_rules_49 ?_ | refine g_lt_rules_60 ?_)
    have l4 : lIs M4 4 (ds.foldl apR (P, R)).1 (ds.foldl apR (P, R)).2 := f4.law ((f3.c (S := [64, 65]) (by decide) (by decide)).law g2 (by decide) (by decide)) (by decide) (by decide)
    refine e_la_copy zLaw_1 zLaw_4 (by omega) (by omega) (by omega) l4 (fun M5 g5 f5 => ?_)
    (first | refine g_lt_rules_0 ?_ | refine g_lt_rules_11 ?_ | refine g_lt_rules_26 ?_ | refine g_lt_rules_34 ?_ | refine g_lt_rules_49 ?_ | refine g_lt_rules_60 ?_)
    have f5' : cFr [2, 3] M4 M5 := f5.c (by decide) (by decide)
    have fb : cFr (2 :: 3 :: cH) M3 M5 := (f4.up (by decide)).tr (f5'.up (by decide))
    exact h M5 L (I3.lx fb (by decide) g5 (apRs_ok ds (p := (P, R)) hI.lo hds) (g4.fr f5' (by decide))) ((fa.aM (by decide)).tr (fb.aM (by decide)))
end RU
