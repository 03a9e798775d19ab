/-! Bench: roots; what is seen -/
/-- of each letter the first k-th part -/
def shrS (u : List Int) (k : Nat) (s : List Int) (a : Int) : List Int := if s.count a < u.count a / k then s ++ [a] else s
def shr (u : List Int) (k : Nat) : List Int := u.foldl (shrS u k) []
theorem shrS_count {u s : List Int} {k : Nat} {a b : Int} (h : s.count b ≤ u.count b / k) : (shrS u k s a).count b ≤ u.count b / k := by
  unfold shrS
  split
  · next g =>
    by_cases q : a = b
    · subst q
      rw [List.count_append, List.count_singleton_self]; omega
    · have e : List.count b [a] = 0 := List.count_eq_zero.mpr (by simp; exact fun z => q z.symm)
      rw [List.count_append, e]; exact h
  · exact h
theorem fold_count {u : List Int} {k : Nat} {b : Int} : ∀ (v s : List Int), s.count b ≤ u.count b / k → (v.foldl (shrS u k) s).count b ≤ u.count b / k
  | [], s, h => h
  | a :: v, s, h => fold_count v _ (shrS_count h)
theorem shr_count {u : List Int} {k : Nat} (b : Int) : (shr u k).count b ≤ u.count b / k := fold_count u [] (by simp)
theorem fold_isW {u : List Int} {k : Nat} : ∀ (v s : List Int), isW v → isW s → isW (v.foldl (shrS u k) s)
  | [], s, _, h => h
  | a :: v, s, hv, h => by
    obtain ⟨ha, hv⟩ := isW_cons hv
    refine fold_isW v _ hv (fun b hb => ?_)
    unfold shrS at hb
    split at hb
    · rcases List.mem_append.mp hb with q | q
      · exact h b q
      · rw [List.mem_singleton.mp q]; exact ha
    · exact h b hb
theorem shr_isW {u : List Int} {k : Nat} (h : isW u) : isW (shr u k) := fold_isW u [] h (fun a ha => by cases ha)
theorem len_counts : ∀ (u : List Int), isW u → u.length = u.count 0 + u.count 1 + u.count 2 + u.count 3 + u.count 4 + u.count 5
  | [], _ => by simp
  | a :: u, h => by
    obtain ⟨ha, hu⟩ := isW_cons h
    have := len_counts u hu
    have : a = 0 ∨ a = 1 ∨ a = 2 ∨ a = 3 ∨ a = 4 ∨ a = 5 := by omega
    rw [List.length_cons]
    rcases this with rfl | rfl | rfl | rfl | rfl | rfl <;> simp <;> omega
theorem mul_div_le' {k c e : Nat} (h : e ≤ c / k) : k * e ≤ c := Nat.le_trans (Nat.mul_le_mul_left k h) (Nat.mul_div_le c k)
theorem shr_len {u : List Int} {k : Nat} (h : isW u) : k * (shr u k).length ≤ u.length := by
  rw [len_counts _ (shr_isW h), len_counts u h]
  have h0 := mul_div_le' (shr_count (u := u) (k := k) 0)
  have h1 := mul_div_le' (shr_count (u := u) (k := k) 1)
  have h2 := mul_div_le' (shr_count (u := u) (k := k) 2)
  have h3 := mul_div_le' (shr_count (u := u) (k := k) 3)
  have h4 := mul_div_le' (shr_count (u := u) (k := k) 4)
  have h5 := mul_div_le' (shr_count (u := u) (k := k) 5)
  simp only [Nat.mul_add]
  omega
/-- k times -/
def rpt (k : Nat) (v : List Int) : List Int := (List.replicate k v).flatten
theorem rpt_len {k : Nat} {v : List Int} : (rpt k v).length = k * v.length := by
  unfold rpt
  rw [List.length_flatten, List.map_replicate, List.sum_replicate_nat]
theorem rpt_isW {k : Nat} {v : List Int} (h : isW v) : isW (rpt k v) := fun a ha => by
  unfold rpt at ha
  obtain ⟨l, h1, h2⟩ := List.mem_flatten.mp ha
  rw [(List.mem_replicate.mp h1).2] at h2
  exact h a h2
/-- all letters stand a number of times that k divides -/
def dvA (u : List Int) (k : Nat) : Prop := ∀ a : Nat, a < 6 → u.count (a : Int) % k = 0
def isPw (P R : Nat → Nat) (u : List Int) (k : Nat) : Prop := dvA u k ∧ lw P R false (rpt k (shr u k)) = lw P R false u
section BR
variable {d : Nat} {M L : zM} {Q : Int → zW → Prop} {r o : Nat} {P R : Nat → Nat} {u v : List Int}
theorem take_fold {α : Type} {f : α → Int → α} {s : α} {k : Nat} (h : k < u.length) : (u.take (k + 1)).foldl f s = f ((u.take k).foldl f s) (u.getD k 0) := by
  rw [take_succ_getD h, List.foldl_append]; rfl
theorem fold_len {u : List Int} {k : Nat} : ∀ (v s : List Int), (v.foldl (shrS u k) s).length ≤ s.length + v.length
  | [], s => by simp
  | a :: v, s => by
    have := fold_len (u := u) (k := k) v (shrS u k s a)
    have h2 : (shrS u k s a).length ≤ s.length + 1 := by
      unfold shrS
      split
      · simp
      · omega
    rw [List.foldl_cons, List.length_cons]
    omega
theorem be_share_loop {k : Nat} (hk1 : 1 ≤ k) (hk : k ≤ 14) (hr : zRow r) (hr6 : r + 1 < 64) (hu : rIs M r u) (hu14 : u.length ≤ 14) (h : ∀ M', rIs M' 108 (shr u k) → cFr [108, 109] M M' → Q 0 (SH, M', L)) :
    ∀ (n j : Nat) (Mj : zM) (v4 : zV), j + n = u.length → rIs Mj 108 ((u.take j).foldl (shrS u k) []) → cFr [108, 109] M Mj → zEx (d + 2) m_be_takeShare zb0 Q 12 ([zR r, zI (k : Int), zR 108, zI (j : Int), v4], [], SH, Mj, L) := by
  intro n
  induction n with
  | zero =>
    intro j Mj v4 hj h1 hf
    have huj := hf.row hu (by simp; omega) (by simp; omega)
    refine g_be_takeShare_12 hr zRow_108 (e_ro_size hr huj (g_be_takeShare_17 hr zRow_108 ?_))
    simp (disch := omega) only [zck_t, if_pos, if_neg, if_true, if_false, zwr_id, Int.toNat_natCast]
    rw [List.take_of_length_le (by omega)] at h1
    exact h Mj h1 hf
  | succ n ih =>
    intro j Mj v4 hj h1 hf
    have huj := hf.row hu (by simp; omega) (by simp; omega)
    have e := fun M' v4 => ih (j + 1) M' v4 (by omega)
    rw [take_fold (by omega)] at e
    have hl := fold_len (u := u) (k := k) (u.take j) []
    rw [List.length_take, List.length_nil] at hl
    refine g_be_takeShare_12 hr zRow_108 (e_ro_size hr huj (g_be_takeShare_17 hr zRow_108 ?_))
    simp (disch := omega) only [zck_t, if_pos, if_neg, if_true, if_false, zwr_id, Int.toNat_natCast]
    refine e_ro_get hr huj ?_
    rw [rget_in (by omega), Int.toNat_natCast]
    have hcl : u.count (u.getD j 0) ≤ u.length := List.count_le_length
    refine g_be_takeShare_25 hr zRow_108 (e_ro_timesOf zRow_108 h1 (g_be_takeShare_33 hr zRow_108 (e_ro_timesOf hr huj (g_be_takeShare_39 hr zRow_108 ?_))))
    rw [zdiv_nat (by omega) (by omega) (by omega), zck_t (by omega)]
    unfold shrS at e
    by_cases g : ((u.take j).foldl (shrS u k) []).count (u.getD j 0) < u.count (u.getD j 0) / k
    · rw [if_pos (by unfold shrS at g; omega)] at e
      rw [if_pos (by omega)]
      refine e_ro_add zRow_108 h1 (fun M1 g1 f1 => g_be_takeShare_50 hr zRow_108 ?_)
      rw [if_pos (by rw [zc108]; omega)] at g1
      rw [zwr_id (by omega) (by omega), show ((j : Int) + 1) = ((j + 1 : Nat) : Int) by omega]
      exact e M1 _ g1 (hf.tr (f1.c (by decide) (by decide)))
    · rw [if_neg (by unfold shrS at g; omega)] at e
      rw [if_neg (by omega)]
      refine g_be_takeShare_50 hr zRow_108 ?_
      rw [zwr_id (by omega) (by omega), show ((j : Int) + 1) = ((j + 1 : Nat) : Int) by omega]
      exact e Mj _ h1 hf
theorem e_be_takeShare {k : Nat} (hk1 : 1 ≤ k) (hk : k ≤ 14) (hr : zRow r) (hr6 : r + 1 < 64) (hu : rIs M r u) (hu14 : u.length ≤ 14) (h : ∀ M', rIs M' 108 (shr u k) → cFr [108, 109] M M' → Q 0 (SH, M', L)) : zEv (d + 2) m_be_takeShare [zR r, zI (k : Int), zR 108] (SH, M, L) Q := by
  refine b_be_takeShare (g_be_takeShare_0 hr zRow_108 (e_ro_clear zRow_108 (fun M1 g1 f1 => g_be_takeShare_4 hr zRow_108 ?_)))
  simp (disch := omega) only [zck_t, if_pos, if_neg, if_true, if_false, zwr_id, Int.toNat_natCast]
  have hf : cFr [108, 109] M M1 := f1.c (by decide) (by decide)
  exact be_share_loop hk1 hk hr hr6 (hf.row hu (by simp; omega) (by simp; omega)) hu14 (fun M' g f => h M' g (hf.tr f)) u.length 0 M1 zN (by omega) g1 cFr.rf
theorem be_power_loop {k : Nat} (hk1 : 1 ≤ k) (hk : k ≤ 14) (hr : zRow r) (hu : rIs M r u) (hu14 : u.length ≤ 14) (h0 : ¬ dvA u k → Q 0 (SH, M, L)) (h1 : dvA u k → zEx (d + 2) m_be_isPower zb0 Q 10 ([zR 82, zR r, zI (k : Int), zR 108, zI 6], [], SH, M, L)) :
    ∀ (n j : Nat), j + n = 6 → (∀ a, a < j → u.count (a : Int) % k = 0) → zEx (d + 2) m_be_isPower zb0 Q 10 ([zR 82, zR r, zI (k : Int), zR 108, zI (j : Int)], [], SH, M, L) := by
  intro n
  induction n with
  | zero =>
    intro j hj hall
    have hj : j = 6 := by omega
    subst hj
    exact h1 hall
  | succ n ih =>
    intro j hj hall
    have hcl : u.count (j : Int) ≤ u.length := List.count_le_length
    refine g_be_isPower_10 hr zRow_108 ?_
    simp (disch := omega) only [zck_t, if_pos, if_neg, if_true, if_false, zwr_id, Int.toNat_natCast]
    refine e_ro_timesOf hr hu (g_be_isPower_23 hr zRow_108 ?_)
    rw [zrem_nat (by omega) (by omega) (by omega), zck_t (by omega), zwr_id (by omega) (by omega), show ((j : Int) + 1) = ((j + 1 : Nat) : Int) by omega]
    by_cases g : u.count (j : Int) % k = 0
    · rw [if_pos (by omega)]
      refine ih (j + 1) (by omega) (fun a ha => ?_)
      by_cases q : a = j
      · subst q; exact g
      · exact hall a (by omega)
    · rw [if_neg (by omega)]
      exact h0 (fun q => g (q j (by omega)))
theorem e_be_isPower {k : Nat} (hk1 : 1 ≤ k) (hk : k ≤ 14) (hr : zRow r) (hr6 : r + 1 < 64) (hlo : lOk P R) (hl : lIs M 1 P R) (hu : rIs M r u) (hw : isW u) (hu14 : u.length ≤ 14) (h1 : isPw P R u k → ∀ M', cFr cD M M' → Q 1 (SH, M', L)) (h0 : ¬ isPw P R u k → ∀ M', cFr cD M M' → Q 0 (SH, M', L)) : zEv (d + 6) m_be_isPower [zR 82, zR r, zI (k : Int), zR 108] (SH, M, L) Q := by
  refine b_be_isPower (g_be_isPower_0 hr zRow_108 ?_)
  simp (disch := omega) only [zck_t, if_pos, if_neg, if_true, if_false, zwr_id, Int.toNat_natCast]
  refine be_power_loop hk1 hk hr hu hu14 (fun q => h0 (fun z => q z.1) M cFr.rf) (fun hdv => ?_) 6 0 (by omega) (fun a ha => by omega)
  refine g_be_isPower_10 hr zRow_108 ?_
  rw [if_neg (by decide)]
  refine e_be_takeShare hk1 hk hr hr6 hu hu14 (fun M1 g1 f1 => g_be_isPower_42 hr zRow_108 (e_ro_clear zRow_85 (fun M2 g2 f2 => g_be_isPower_49 hr zRow_108 ?_)))
  have hsl := shr_len (k := k) hw
  have hrl := rpt_len (k := k) (v := shr u k)
  refine e_ro_appendTimes (k := (k : Int)) zRow_85 zRow_108 (by omega) g2 (f2.row zRow_85 zRow_108 (by omega) g1) (by omega) (by rw [zc85]; rw [show ((k : Int) * ((shr u k).length : Int)) = ((k * (shr u k).length : Nat) : Int) by rw [Int.natCast_mul]]; simp; omega) (fun M3 g3 f3 => g_be_isPower_58 hr zRow_108 ?_)
  rw [List.nil_append, Int.toNat_natCast] at g3
  have g3 : rIs M3 85 (rpt k (shr u k)) := g3
  have hf3 : cFr cD M M3 := ((f1.up (by decide)).tr (f2.c (by decide) (by decide))).tr (f3.c (by decide) (by decide))
  refine e_be_arrange (last := false) zRow_85 zRow_85 (by omega) (by omega) g3 (rpt_isW (shr_isW hw)) (hf3.law hl (by decide) (by decide)) hlo (by omega) (by rw [zc85]; omega) (fun M4 g4 f4 => g_be_isPower_71 hr zRow_108 ?_)
  have hf4 : cFr cD M M4 := hf3.tr (f4.up (by decide))
  have hu4 := hf4.row hu (by unfold cD; simp; omega) (by unfold cD; simp; omega)
  refine e_be_arrange (last := false) hr zRow_87 (by omega) (by omega) hu4 hw (hf4.law hl (by decide) (by decide)) hlo (by omega) (by rw [zc87]; omega) (fun M5 g5 f5 => g_be_isPower_81 hr zRow_108 ?_)
  have hf5 : cFr cD M M5 := hf4.tr (f5.up (by decide))
  have g4' := f5.row g4 (by decide) (by decide)
  refine e_ro_same zRow_85 zRow_87 g4' g5 (g_be_isPower_92 hr zRow_108 ?_)
  by_cases q : lw P R false (rpt k (shr u k)) = lw P R false u
  · rw [if_pos q]
    exact h1 ⟨hdv, q⟩ M5 hf5
  · rw [if_neg q]
    exact h0 (fun z => q z.2) M5 hf5
/-- the greatest k: none greater than it up to n is one -/
def rtK (P R : Nat → Nat) (u : List Int) (k : Nat) : Prop := 1 ≤ k ∧ k ≤ u.length ∧ (1 < k → isPw P R u k) ∧ ∀ j, k < j → j ≤ u.length → ¬ isPw P R u j
theorem be_root_loop (hr : zRow r) (hr6 : r + 1 < 64) (hlo : lOk P R) (hl : lIs M 1 P R) (hu : rIs M r u) (hw : isW u) (hu1 : 1 ≤ u.length) (hu14 : u.length ≤ 14) (h : ∀ k : Nat, rtK P R u k → ∀ M', rIs M' 108 (lw P R false (shr u k)) → cFr cD M M' → Q (k : Int) (SH, M', L)) :
    ∀ (k : Nat) (Mk : zM), 1 ≤ k → k ≤ u.length → (∀ j, k < j → j ≤ u.length → ¬ isPw P R u j) → cFr cD M Mk → zEx (d + 7) m_be_takeRoot zb0 Q 8 ([zR 82, zR r, zR 108, zI 1, zI (k : Int)], [], SH, Mk, L) := by
  have fin : ∀ (k : Nat) (x4 : Int) (Mk : zM), rtK P R u k → cFr cD M Mk → zEv (d + 6) m_be_takeShare [zR r, zI (k : Int), zR 108] (SH, Mk, L) (fun _ w => zEx (d + 7) m_be_takeRoot zb0 Q 43 ([zR 82, zR r, zR 108, zI (k : Int), zI x4], [], w)) := by
    intro k x4 Mk hk hf
    have huk := hf.row hu (by unfold cD; simp; omega) (by unfold cD; simp; omega)
    have hlk := hf.law hl (by decide) (by decide)
    have hkk := hk
    obtain ⟨k1, k2, k3, k4⟩ := hk
    have hsl := shr_len (k := k) hw
    have : (shr u k).length ≤ k * (shr u k).length := Nat.le_mul_of_pos_left _ (by omega)
    refine e_be_takeShare (d := d + 4) k1 (by omega) hr hr6 huk hu14 (fun M1 g1 f1 => g_be_takeRoot_43 hr zRow_108 (e_be_arrange (last := false) zRow_108 zRow_108 (by omega) (by omega) g1 (shr_isW hw) (f1.law hlk (by decide) (by decide)) hlo (by omega) (by rw [zc108]; omega) (fun M2 g2 f2 => g_be_takeRoot_50 hr zRow_108 (h k hkk M2 g2 ((hf.tr (f1.up (by decide))).tr (f2.up (by decide)))))))
  intro k
  induction k with
  | zero => intro Mk h1; omega
  | succ k ih =>
    intro Mk hk1 hk2 hall hf
    have huk := hf.row hu (by unfold cD; simp; omega) (by unfold cD; simp; omega)
    have hlk := hf.law hl (by decide) (by decide)
    refine g_be_takeRoot_8 hr zRow_108 ?_
    by_cases q : 1 < k + 1
    · rw [if_pos (by omega)]
      refine e_be_isPower (d := d) hk1 (by omega) hr hr6 hlo hlk huk hw hu14 (fun hp M1 f1 => g_be_takeRoot_22 hr zRow_108 (zif_f (by decide) (fin (k + 1) _ M1 ⟨hk1, hk2, fun _ => hp, hall⟩ (hf.tr f1)))) (fun hp M1 f1 => g_be_takeRoot_22 hr zRow_108 (zif_t rfl ?_))
      rw [zwr_id (by omega) (by omega), show ((k + 1 : Nat) : Int) + -1 = (k : Int) by omega]
      refine ih M1 (by omega) (by omega) (fun j h1 h2 => ?_) (hf.tr f1)
      by_cases z : j = k + 1
      · rw [z]; exact hp
      · exact hall j (by omega) h2
    · have hk0 : k = 0 := by omega
      subst hk0
      rw [if_neg (by decide)]
      exact fin 1 _ Mk ⟨by omega, by omega, fun z => by omega, hall⟩ hf
theorem e_be_takeRoot (hr : zRow r) (hr6 : r + 1 < 64) (hlo : lOk P R) (hl : lIs M 1 P R) (hu : rIs M r u) (hw : isW u) (hu1 : 1 ≤ u.length) (hu14 : u.length ≤ 14) (h : ∀ k : Nat, rtK P R u k → ∀ M', rIs M' 108 (lw P R false (shr u k)) → cFr cD M M' → Q (k : Int) (SH, M', L)) : zEv (d + 7) m_be_takeRoot [zR 82, zR r, zR 108] (SH, M, L) Q :=
  b_be_takeRoot (g_be_takeRoot_0 hr zRow_108 (e_ro_size hr hu (g_be_takeRoot_6 hr zRow_108 (be_root_loop hr hr6 hlo hl hu hw hu1 hu14 h u.length M hu1 (by omega) (fun j h1 h2 => by omega) cFr.rf))))
/-! what is seen -/
theorem ro_only_loop {s : Nat} (hs : s < 64) (hr : zRow r) (ho : zRow o) (hne : r ≠ o) (hv : rIs M o v) (hw : isW v) (hl : (v.length : Int) ≤ zln SH (r + 1)) (h : ∀ M', rIs M' r (v.filter (fun a => s.testBit a.toNat)) → rFr M M' r → Q 0 (SH, M', L)) :
    ∀ (n k : Nat) (Mk : zM) (v4 : zV), k + n = v.length → rIs Mk r ((v.take k).filter (fun a => s.testBit a.toNat)) → rFr M Mk r → zEx (d + 2) m_ro_appendOnly zb0 Q 2 ([zR r, zR o, zI (s : Int), zI (k : Int), v4], [], SH, Mk, L) := by
  have hc := zRow_cap ho
  have hvl := hv.2.2
  intro n
  induction n with
  | zero =>
    intro k Mk v4 hk h1 hf
    have hvk := hf.row hr ho (Ne.symm hne) hv
    refine g_ro_appendOnly_2 hr ho ?_
    rw [hvk.1]
    simp (disch := omega) only [zck_t, if_pos, if_neg, if_true, if_false, zwr_id, Int.toNat_natCast]
    rw [List.take_of_length_le (by omega)] at h1
    exact h Mk h1 hf
  | succ n ih =>
    intro k Mk v4 hk h1 hf
    have hvk := hf.row hr ho (Ne.symm hne) hv
    have ha := isW_at hw (show k < v.length by omega)
    have e := fun M' v4 => ih (k + 1) M' v4 (by omega)
    rw [take_succ_getD (by omega), List.filter_append] at e
    refine g_ro_appendOnly_2 hr ho ?_
    rw [hvk.1]
    simp (disch := omega) only [zck_t, if_pos, if_neg, if_true, if_false, zwr_id, Int.toNat_natCast]
    refine e_ro_get ho hvk ?_
    rw [rget_in (by omega), Int.toNat_natCast]
    refine g_ro_appendOnly_15 hr ho ?_
    have eb := zbit_if (x := s) (k := (v.getD k 0).toNat) (by omega) (by omega)
    rw [Int.toNat_of_nonneg ha.1] at eb
    simp only [eb]
    by_cases g : s.testBit (v.getD k 0).toNat = true
    · rw [if_pos g]
      rw [List.filter_cons_of_pos (by exact g), List.filter_nil] at e
      refine e_ro_add hr h1 (fun M1 g1 f1 => g_ro_appendOnly_33 hr ho ?_)
      have hfl : ((v.take k).filter (fun a => s.testBit a.toNat)).length ≤ k := Nat.le_trans (List.length_filter_le _ _) (by rw [List.length_take]; omega)
      rw [if_pos (by omega)] at g1
      rw [zwr_id (by omega) (by omega), show ((k : Int) + 1) = ((k + 1 : Nat) : Int) by omega]
      exact e M1 _ g1 (hf.tr f1)
    · rw [if_neg g]
      rw [List.filter_cons_of_neg (by exact g), List.filter_nil, List.append_nil] at e
      refine g_ro_appendOnly_33 hr ho ?_
      rw [zwr_id (by omega) (by omega), show ((k : Int) + 1) = ((k + 1 : Nat) : Int) by omega]
      exact e Mk _ h1 hf
theorem e_ro_appendOnly {s : Nat} (hs : s < 64) (hr : zRow r) (ho : zRow o) (hne : r ≠ o) (h0 : rIs M r []) (hv : rIs M o v) (hw : isW v) (hl : (v.length : Int) ≤ zln SH (r + 1)) (h : ∀ M', rIs M' r (v.filter (fun a => s.testBit a.toNat)) → rFr M M' r → Q 0 (SH, M', L)) : zEv (d + 2) m_ro_appendOnly [zR r, zR o, zI (s : Int)] (SH, M, L) Q :=
  b_ro_appendOnly (g_ro_appendOnly_0 hr ho (ro_only_loop hs hr ho hne hv hw hl h v.length 0 M zN (by omega) h0 rFr.rf))
end BR
