/-! contracts of Row: putting in, taking out, counting, comparing -/
theorem getD_ins {u : List Int} {i b : Nat} {x : Int} (hi : i ≤ u.length) : (u.take i ++ x :: u.drop i).getD b 0 = if b < i then u.getD b 0 else if b = i then x else u.getD (b - 1) 0 := by
  have hl : (u.take i).length = i := by rw [List.length_take]; omega
  by_cases h1 : b < i
  · rw [if_pos h1, getD_app_l (by omega), List.getD_eq_getElem?_getD, List.getD_eq_getElem?_getD, List.getElem?_take_of_lt h1]
  · rw [if_neg h1]
    have e := getD_app_r (u := u.take i) (v := x :: u.drop i) (j := b - i)
    rw [hl, show i + (b - i) = b by omega] at e
    rw [e]
    by_cases h2 : b = i
    · rw [if_pos h2, show b - i = 0 by omega]; rfl
    · rw [if_neg h2, show b - i = (b - i - 1) + 1 by omega]
      show (u.drop i).getD (b - i - 1) 0 = _
      rw [List.getD_eq_getElem?_getD, List.getElem?_drop, List.getD_eq_getElem?_getD]
      congr 2
      omega
theorem getD_del {u : List Int} {p b : Nat} (hp : p < u.length) : (u.take p ++ u.drop (p + 1)).getD b 0 = if b < p then u.getD b 0 else u.getD (b + 1) 0 := by
  have hl : (u.take p).length = p := by rw [List.length_take]; omega
  by_cases h1 : b < p
  · rw [if_pos h1, getD_app_l (by omega), List.getD_eq_getElem?_getD, List.getD_eq_getElem?_getD, List.getElem?_take_of_lt h1]
  · rw [if_neg h1]
    have e := getD_app_r (u := u.take p) (v := u.drop (p + 1)) (j := b - p)
    rw [hl, show p + (b - p) = b by omega] at e
    rw [e, List.getD_eq_getElem?_getD, List.getElem?_drop, List.getD_eq_getElem?_getD]
    congr 2
    omega
/-- the place of x's n-th time, from k on -/
def pot (x : Int) : List Int → Int → Int → Int
  | [], _, _ => -9
  | a :: u, n, k => if a = x then (if n = 0 then k else pot x u (n - 1) (k + 1)) else pot x u n (k + 1)
theorem pot_0 {x : Int} : ∀ (u : List Int) (k : Int), 0 ≤ k → (pot x u 0 k = -9 ∧ x ∉ u) ∨ ∃ p : Nat, pot x u 0 k = k + p ∧ p < u.length ∧ u.erase x = u.take p ++ u.drop (p + 1) ∧ u.getD p 0 = x ∧ x ∉ u.take p
  | [], k, _ => Or.inl ⟨rfl, by simp⟩
  | a :: u, k, hk => by
    unfold pot
    by_cases h : a = x
    · right
      subst h
      rw [if_pos rfl, if_pos rfl]
      exact ⟨0, by simp, by simp, by simp, rfl, by simp⟩
    · rw [if_neg h]
      rcases pot_0 u (k + 1) (by omega) with ⟨h1, h2⟩ | ⟨p, h1, h2, h3, h4, h5⟩
      · exact Or.inl ⟨h1, fun q => (List.mem_cons.mp q).elim (fun q => h q.symm) h2⟩
      · right
        refine ⟨p + 1, by rw [h1]; omega, by simp; omega, ?_, h4, fun q => ?_⟩
        · rw [List.erase_cons_tail (by simpa using h), h3]; rfl
        · rcases List.mem_cons.mp q with q | q
          · exact h q.symm
          · exact h5 q
section RQ
variable {d : Nat} {M L : zM} {Q : Int → zW → Prop} {r o : Nat} {u v : List Int}
theorem ro_insert_loop {i x : Int} (hr : zRow r) (hu : rIs M r u) (hi0 : 0 ≤ i) (hi : i ≤ u.length) (hcap : (u.length : Int) < zln SH (r + 1)) (h : ∀ M', rIs M' r (u.take i.toNat ++ x :: u.drop i.toNat) → rFr M M' r → Q 0 (SH, M', L)) :
    ∀ (n : Nat) (k : Int) (Mk : zM), k = i + n → k ≤ u.length → (∀ a, a ≠ r + 1 → Mk a = M a) → (∀ b : Nat, (b : Int) < k → Mk (r + 1) b = u.getD b 0) → (∀ b : Nat, k < b → b ≤ u.length → Mk (r + 1) b = u.getD (b - 1) 0) →
      zEx (d + 1) m_ro_insert zb0 Q 30 ([zR r, zI i, zI x, zI k], [], SH, Mk, L) := by
  have hc := zRow_cap hr
  have hl : (u.take i.toNat ++ x :: u.drop i.toNat).length = u.length + 1 := by simp; omega
  intro n
  induction n with
  | zero =>
    intro k Mk hk hkl h1 h2 h3
    have hki : k = i := by omega
    subst hki
    refine g_ro_insert_30 hr (zif_f (by omega) (zck_i ⟨hi0, by omega⟩ ?_))
    rw [zmu_k (by omega), h1 r (by omega), hu.1, zwr_id (by omega) (by omega)]
    refine h _ ⟨by rw [zmu_s, hl]; omega, fun b hb => ?_, by rw [hl]; omega⟩ (fun a h4 h5 => ?_)
    · rw [hl] at hb
      rw [zmu_k (by omega), getD_ins (by omega)]
      by_cases q1 : b < k.toNat
      · rw [if_pos q1, zmu_j (by omega)]; exact h2 b (by omega)
      · rw [if_neg q1]
        by_cases q2 : b = k.toNat
        · rw [if_pos q2, q2, zmu_s]
        · rw [if_neg q2, zmu_j q2]; exact h3 b (by omega) (by omega)
    · rw [zmu_kf h4, zmu_kf h5]; exact h1 a h5
  | succ n ih =>
    intro k Mk hk hkl h1 h2 h3
    refine g_ro_insert_30 hr (zif_t (by omega) ?_)
    rw [zwr_id (x := k - 1) (by omega) (by omega), zwr_id (x := k + -1) (by omega) (by omega)]
    refine zck_i ⟨by omega, by omega⟩ (zck_i ⟨by omega, by omega⟩ ?_)
    refine ih (k + -1) _ (by omega) (by omega) (fun a ha => by rw [zmu_kf ha]; exact h1 a ha) (fun b hb => ?_) (fun b hb hb2 => ?_)
    · rw [zmu_j (by omega)]; exact h2 b (by omega)
    · by_cases q : b = k.toNat
      · rw [q, zmu_s, h2 _ (by omega)]
        congr 1
        omega
      · rw [zmu_j q]; exact h3 b (by omega) hb2
theorem e_ro_insert {i x : Int} (hr : zRow r) (hu : rIs M r u) (hi0 : 0 ≤ i) (hi : i ≤ u.length) (hcap : (u.length : Int) < zln SH (r + 1)) (h : ∀ M', rIs M' r (u.take i.toNat ++ x :: u.drop i.toNat) → rFr M M' r → Q 0 (SH, M', L)) : zEv (d + 1) m_ro_insert [zR r, zI i, zI x] (SH, M, L) Q := by
  refine b_ro_insert (g_ro_insert_0 hr (zif_f (by omega) ?_))
  rw [hu.1]
  refine zif_f (by omega) (zif_t hcap ?_)
  exact ro_insert_loop hr hu hi0 hi hcap h ((u.length : Int) - i).toNat _ M (by omega) (by omega) (fun _ _ => rfl) (fun b hb => hu.2.1 b (by omega)) (fun b hb hb2 => by omega)
theorem ro_place_loop {x n res : Int} (hr : zRow r) (hu : rIs M r u) (h : Q res (SH, M, L)) :
    ∀ (v : List Int) (k t : Int), u.drop k.toNat = v → 0 ≤ k → k + v.length = u.length → 0 ≤ t → t ≤ k → pot x v (n - t) k = res → zEx (d + 1) m_ro_placeOfTime zb0 Q 5 ([zR r, zI x, zI n, zI t, zI k], [], SH, M, L) := by
  have hc := zRow_cap hr
  have hul := hu.2.2
  intro v
  induction v with
  | nil =>
    intro k t hd h0 hk ht0 ht hp
    simp at hk
    refine g_ro_placeOfTime_5 hr (zif_f (by rw [hu.1]; omega) ?_)
    rw [← hp] at h
    exact h
  | cons a v ih =>
    intro k t hd h0 hk ht0 ht hp
    simp at hk
    have hat : u.getD k.toNat 0 = a := by
      have := congrArg (fun l => l.getD 0 0) hd
      simp only [List.getD_cons_zero] at this
      rw [← this, List.getD_eq_getElem?_getD, List.getD_eq_getElem?_getD, List.getElem?_drop]
      rfl
    have hd2 : u.drop (k + 1).toNat = v := by
      rw [show (k + 1).toNat = k.toNat + 1 by omega, ← List.drop_drop, hd]; rfl
    refine g_ro_placeOfTime_5 hr (zif_t (by rw [hu.1]; omega) (zck_i ⟨h0, by omega⟩ ?_))
    rw [hu.2.1 _ (by omega), hat, zwr_id (x := t + 1) (by omega) (by omega), zwr_id (x := k + 1) (by omega) (by omega)]
    unfold pot at hp
    refine zif_c (fun q => zif_c (fun q2 => ?_) (fun q2 => ?_)) (fun q => ?_)
    · rw [if_pos q, if_pos (by omega)] at hp
      rw [← hp] at h; exact h
    · rw [if_pos q, if_neg (by omega)] at hp
      exact ih (k + 1) (t + 1) hd2 (by omega) (by omega) (by omega) (by omega) (by rw [show n - (t + 1) = n - t - 1 by omega]; exact hp)
    · rw [if_neg q] at hp
      exact ih (k + 1) t hd2 (by omega) (by omega) (by omega) (by omega) hp
theorem e_ro_placeOfTime {x n : Int} (hr : zRow r) (hu : rIs M r u) (h : Q (pot x u n 0) (SH, M, L)) : zEv (d + 1) m_ro_placeOfTime [zR r, zI x, zI n] (SH, M, L) Q :=
  b_ro_placeOfTime (g_ro_placeOfTime_0 hr (ro_place_loop hr hu h u 0 0 rfl (by omega) (by omega) (by omega) (by omega) (by rw [Int.sub_zero])))
theorem ro_remove_loop {x : Int} {p : Nat} (hr : zRow r) (hu : rIs M r u) (hp : p < u.length) (h : ∀ M', rIs M' r (u.take p ++ u.drop (p + 1)) → rFr M M' r → Q 0 (SH, M', L)) :
    ∀ (n : Nat) (k : Int) (Mk : zM), k + n = u.length → (p : Int) < k → (∀ a, a ≠ r + 1 → Mk a = M a) → (∀ b : Nat, (b : Int) < k - 1 → Mk (r + 1) b = if b < p then u.getD b 0 else u.getD (b + 1) 0) → (∀ b : Nat, k ≤ b → b < u.length → Mk (r + 1) b = u.getD b 0) →
      zEx (d + 2) m_ro_removeFirst zb0 Q 16 ([zR r, zI x, zI (p : Int), zI k], [], SH, Mk, L) := by
  have hc := zRow_cap hr
  have hul := hu.2.2
  have hl : (u.take p ++ u.drop (p + 1)).length = u.length - 1 := by simp; omega
  intro n
  induction n with
  | zero =>
    intro k Mk hk hpk h1 h2 h3
    refine g_ro_removeFirst_16 hr (zif_f (by rw [h1 r (by omega), hu.1]; omega) ?_)
    rw [h1 r (by omega), hu.1, zwr_id (by omega) (by omega)]
    refine h _ ⟨by rw [zmu_s, hl]; omega, fun b hb => ?_, by rw [hl]; omega⟩ (fun a h4 h5 => by rw [zmu_kf h4]; exact h1 a h5)
    rw [hl] at hb
    rw [zmu_k (by omega), getD_del hp]
    exact h2 b (by omega)
  | succ n ih =>
    intro k Mk hk hpk h1 h2 h3
    refine g_ro_removeFirst_16 hr (zif_t (by rw [h1 r (by omega), hu.1]; omega) ?_)
    rw [zwr_id (x := k - 1) (by omega) (by omega), zwr_id (x := k + 1) (by omega) (by omega)]
    refine zck_i ⟨by omega, by omega⟩ (zck_i ⟨by omega, by omega⟩ ?_)
    refine ih (k + 1) _ (by omega) (by omega) (fun a ha => by rw [zmu_kf ha]; exact h1 a ha) (fun b hb => ?_) (fun b hb hb2 => ?_)
    · by_cases q : b = (k - 1).toNat
      · rw [q, zmu_s, h3 _ (by omega) (by omega), if_neg (by omega)]
        congr 1
        omega
      · rw [zmu_j q]; exact h2 b (by omega)
    · rw [zmu_j (by omega)]; exact h3 b (by omega) hb2
theorem e_ro_removeFirst {x : Int} (hr : zRow r) (hu : rIs M r u) (h : ∀ M', rIs M' r (u.erase x) → rFr M M' r → Q 0 (SH, M', L)) : zEv (d + 2) m_ro_removeFirst [zR r, zI x] (SH, M, L) Q := by
  have hc := zRow_cap hr
  have hul := hu.2.2
  refine b_ro_removeFirst (g_ro_removeFirst_0 hr (e_ro_placeOfTime hr hu (g_ro_removeFirst_6 hr ?_)))
  rcases pot_0 (x := x) u 0 (by omega) with ⟨h1, h2⟩ | ⟨p, h1, h2, h3, h4, h5⟩
  · rw [List.erase_of_not_mem h2] at h
    rw [h1]
    exact zif_t (by omega) (h M hu rFr.rf)
  · rw [h3] at h
    rw [h1]
    refine zif_f (by omega) ?_
    rw [Int.zero_add, zwr_id (by omega) (by omega)]
    exact ro_remove_loop hr hu h2 h (u.length - p - 1) _ M (by omega) (by omega) (fun _ _ => rfl) (fun b hb => by rw [if_pos (by omega)]; exact hu.2.1 b (by omega)) (fun b hb hb2 => hu.2.1 b hb2)
theorem take_succ_getD {u : List Int} {k : Nat} (h : k < u.length) : u.take (k + 1) = u.take k ++ [u.getD k 0] := by
  rw [List.take_succ, List.getElem?_eq_getElem h, List.getD_eq_getElem?_getD, List.getElem?_eq_getElem h]
  rfl
theorem ro_times_loop {x : Int} (hr : zRow r) (hu : rIs M r u) (h : Q (u.count x) (SH, M, L)) :
    ∀ (n k : Nat), k + n = u.length → zEx (d + 1) m_ro_timesOf zb0 Q 4 ([zR r, zI x, zI ((u.take k).count x : Int), zI (k : Int)], [], SH, M, L) := by
  have hc := zRow_cap hr
  have hul := hu.2.2
  intro n
  induction n with
  | zero =>
    intro k hk
    refine g_ro_timesOf_4 hr (zif_f (by rw [hu.1]; omega) ?_)
    rw [List.take_of_length_le (by omega)]
    exact h
  | succ n ih =>
    intro k hk
    have hcl : (u.take k).count x ≤ k := Nat.le_trans List.count_le_length (by rw [List.length_take]; omega)
    refine g_ro_timesOf_4 hr (zif_t (by rw [hu.1]; omega) (zck_i ⟨by omega, by omega⟩ ?_))
    rw [Int.toNat_natCast, hu.2.1 _ (by omega), zwr_id (x := (k : Int) + 1) (by omega) (by omega), zwr_id (by omega) (by omega)]
    have e := ih (k + 1) (by omega)
    rw [take_succ_getD (by omega), List.count_append] at e
    refine zif_c (fun q => ?_) (fun q => ?_)
    · rw [q] at e
      simpa using e
    · have : List.count x [u.getD k 0] = 0 := by simp [List.count_eq_zero]; exact fun g => q g.symm
      rw [this] at e
      simpa using e
theorem e_ro_timesOf {x : Int} (hr : zRow r) (hu : rIs M r u) (h : Q (u.count x) (SH, M, L)) : zEv (d + 1) m_ro_timesOf [zR r, zI x] (SH, M, L) Q :=
  b_ro_timesOf (g_ro_timesOf_0 hr (by simpa using ro_times_loop (d := d) hr hu h u.length 0 (by omega)))
end RQ
