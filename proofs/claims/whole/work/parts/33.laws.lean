/-! Laws: what is tied; lots -/
/-- how many are tied: the letters that are, how many -/
def tdS (P : Nat → Nat) (s : Nat × Nat) (a : Int) : Nat × Nat := if s.1 ^^^ (s.1 &&& P a.toNat) = 0 then s else (s.1 ||| 2 ^ a.toNat, s.2 + 1)
def tdN (P : Nat → Nat) (a : Int) (v : List Int) : Nat := (v.foldl (tdS P) (2 ^ a.toNat, 0)).2
theorem tdS_lt {P : Nat → Nat} {s : Nat × Nat} {a : Int} (ha : 0 ≤ a ∧ a < 6) (h : s.1 < 64) : (tdS P s a).1 < 64 ∧ (tdS P s a).2 ≤ s.2 + 1 := by
  have h2 := p6 (a := a.toNat) (by omega)
  unfold tdS
  split
  · exact ⟨h, by omega⟩
  · exact ⟨Nat.or_lt_two_pow (n := 6) (by omega) (by omega), by dsimp only; omega⟩
/-- a draw -/
def lotZ (z : Int) : Int := zwr (zwr (z * 1664525) + 1013904223)
def lotP (z : Int) (m : Int) : Int := zrem (zdiv (zand z 2147483647) 256) m
theorem zand_max (z : Int) : ∃ w : Nat, w < 2147483648 ∧ zand z 2147483647 = (w : Int) := by
  unfold zand
  refine ⟨((Int32.ofInt z).toBitVec &&& (Int32.ofInt 2147483647).toBitVec).toNat, ?_, ?_⟩
  · have : ((Int32.ofInt z).toBitVec &&& (Int32.ofInt 2147483647).toBitVec).toNat ≤ (Int32.ofInt 2147483647).toBitVec.toNat := by rw [BitVec.toNat_and]; exact Nat.and_le_right
    have e : (Int32.ofInt 2147483647).toBitVec.toNat = 2147483647 := by decide
    omega
  · have : ((Int32.ofInt z).toBitVec &&& (Int32.ofInt 2147483647).toBitVec).toNat ≤ (Int32.ofInt 2147483647).toBitVec.toNat := by rw [BitVec.toNat_and]; exact Nat.and_le_right
    have e : (Int32.ofInt 2147483647).toBitVec.toNat = 2147483647 := by decide
    show ((Int32.ofInt z).toBitVec &&& (Int32.ofInt 2147483647).toBitVec).toInt = _
    rw [BitVec.toInt_eq_toNat_of_lt (by omega)]
theorem lotP_in (z : Int) {m : Int} (h1 : 1 ≤ m) (h2 : m < 100) : 0 ≤ lotP z m ∧ lotP z m < m := by
  obtain ⟨w, hw, he⟩ := zand_max z
  unfold lotP
  rw [he, show zdiv (w : Int) 256 = ((w / 256 : Nat) : Int) from zdiv_nat (b := 256) (by omega) (by omega) (by omega)]
  have := zrem_nat (a := w / 256) (b := m.toNat) (by omega) (by omega) (by omega)
  rw [Int.toNat_of_nonneg (by omega)] at this
  rw [this]
  have := Nat.mod_lt (w / 256) (show 0 < m.toNat by omega)
  omega
/-- two neighbours change -/
def swp (u : List Int) (p : Nat) : List Int := (u.set p (u.getD (p + 1) 0)).set (p + 1) (u.getD p 0)
def lotS (P : Nat → Nat) (s : List Int × Int × Nat) : List Int × Int × Nat := if psL P (s.1.getD (lotP (lotZ s.2.1) ((s.1.length : Int) - 1)).toNat 0) (s.1.getD ((lotP (lotZ s.2.1) ((s.1.length : Int) - 1)).toNat + 1) 0) then (swp s.1 (lotP (lotZ s.2.1) ((s.1.length : Int) - 1)).toNat, lotZ s.2.1, s.2.2 + 1) else (s.1, lotZ s.2.1, s.2.2)
def lots (P : Nat → Nat) : Nat → List Int × Int × Nat → List Int × Int × Nat
  | 0, s => s
  | n + 1, s => lots P n (lotS P s)
theorem swp_len {u : List Int} {p : Nat} : (swp u p).length = u.length := by unfold swp; rw [List.length_set, List.length_set]
theorem isW_set {u : List Int} {p : Nat} {x : Int} (h : isW u) (hx : 0 ≤ x ∧ x < 6) : isW (u.set p x) := fun a ha => by
  rcases List.mem_or_eq_of_mem_set ha with q | q
  · exact h a q
  · rw [q]; exact hx
theorem swp_isW {u : List Int} {p : Nat} (h : isW u) (hp : p + 1 < u.length) : isW (swp u p) := isW_set (isW_set h (isW_at h hp)) (isW_at h (by omega))
theorem lotS_ok {P : Nat → Nat} {s : List Int × Int × Nat} (h : isW s.1) (h2 : 2 ≤ s.1.length) (h3 : s.1.length ≤ 28) : isW (lotS P s).1 ∧ (lotS P s).1.length = s.1.length ∧ (lotS P s).2.2 ≤ s.2.2 + 1 := by
  have hb := lotP_in (lotZ s.2.1) (m := (s.1.length : Int) - 1) (by omega) (by omega)
  unfold lotS
  split
  · exact ⟨swp_isW h (by omega), swp_len, by dsimp only; omega⟩
  · exact ⟨h, rfl, by dsimp only; omega⟩
section LD
variable {d : Nat} {M L : zM} {Q : Int → zW → Prop} {l o r : Nat} {P R : Nat → Nat} {a b : Int} {u v : List Int}
theorem la_tied_back {p : Int} (hz : zLaw l) (hr : zRow r) (hl : lIs M l P R) (hp : ∀ a, a < 6 → P a < 64) (hu : rIs M r u) (hw : isW u) :
    ∀ (k : Nat) (s : Nat × Nat) (v7 : zV), k ≤ u.length → s.1 < 64 → s.2 + k ≤ u.length → Q (((u.take k).reverse.foldl (tdS P) s).2 : Int) (SH, M, L) → zEx (d + 3) m_la_howManyTied zb0 Q 17 ([zR l, zR r, zI p, zI (-1), zI (s.1 : Int), zI (s.2 : Int), zI ((k : Int) - 1), v7], [], SH, M, L) := by
  have hc := zRow_cap hr
  have hul := hu.2.2
  intro k
  induction k with
  | zero =>
    intro s v7 hk hs hb h
    refine g_la_howManyTied_17 hz hr ?_
    simp (disch := omega) only [zck_t, if_pos, if_neg, if_true, if_false, zwr_id, Int.toNat_natCast]
    exact h
  | succ k ih =>
    intro s v7 hk hs hb h
    have ha := isW_at hw (show k < u.length by omega)
    have hpa := hp (u.getD k 0).toNat (by omega)
    have h2 := p6 (a := (u.getD k 0).toNat) (by omega)
    rw [take_succ_getD (by omega), List.reverse_append, List.reverse_singleton, List.singleton_append, List.foldl_cons] at h
    refine g_la_howManyTied_17 hz hr ?_
    simp (disch := omega) only [zck_t, if_pos, if_neg, if_true, if_false, zwr_id, Int.toNat_natCast]
    refine e_ro_size hr hu (g_la_howManyTied_32 hz hr ?_)
    simp (disch := omega) only [zck_t, if_pos, if_neg, if_true, if_false, zwr_id, Int.toNat_natCast]
    refine e_ro_get hr hu ?_
    rw [rget_in (by omega), show (((k + 1 : Nat) : Int) - 1).toNat = k by omega]
    refine g_la_howManyTied_41 hz hr (e_la_passedBy hz hl ha (g_la_howManyTied_51 hz hr ?_))
    have hl1 := tdS_lt (P := P) ha hs
    have e := ih (tdS P s (u.getD k 0)) (zI (u.getD k 0)) (by omega) hl1.1 (by omega) h
    simp (disch := omega) only [zck_t, if_pos, if_neg, if_true, if_false, zwr_id, Int.toNat_natCast, zandn_nat, zshl_1, zor_nat]
    rw [show ((k + 1 : Nat) : Int) - 1 + -1 = (k : Int) - 1 by omega]
    unfold tdS at e
    by_cases g : s.1 ^^^ (s.1 &&& P (u.getD k 0).toNat) = 0
    · rw [if_pos g] at e
      rw [if_pos (by omega)]
      exact e
    · rw [if_neg g] at e
      rw [if_neg (by omega)]
      exact e
theorem la_tied_on {p : Int} (hz : zLaw l) (hr : zRow r) (hl : lIs M l P R) (hp : ∀ a, a < 6 → P a < 64) (hu : rIs M r u) (hw : isW u) :
    ∀ (v : List Int) (k : Nat) (s : Nat × Nat) (v7 : zV), u.drop k = v → k ≤ u.length → s.1 < 64 → s.2 ≤ k → Q ((v.foldl (tdS P) s).2 : Int) (SH, M, L) → zEx (d + 3) m_la_howManyTied zb0 Q 17 ([zR l, zR r, zI p, zI 1, zI (s.1 : Int), zI (s.2 : Int), zI (k : Int), v7], [], SH, M, L) := by
  have hc := zRow_cap hr
  have hul := hu.2.2
  intro v
  induction v with
  | nil =>
    intro k s v7 hd hk hs hb h
    have : u.length ≤ k := by have := congrArg List.length hd; simp at this; omega
    refine g_la_howManyTied_17 hz hr ?_
    simp (disch := omega) only [zck_t, if_pos, if_neg, if_true, if_false, zwr_id, Int.toNat_natCast]
    refine e_ro_size hr hu (g_la_howManyTied_32 hz hr ?_)
    simp (disch := omega) only [zck_t, if_pos, if_neg, if_true, if_false, zwr_id, Int.toNat_natCast]
    exact h
  | cons c v ih =>
    intro k s v7 hd hk hs hb h
    obtain ⟨h1, h2, h3⟩ := drop_cons hd
    have ha := isW_at hw (show k < u.length by omega)
    rw [h1] at ha
    have hpa := hp c.toNat (by omega)
    have h4 := p6 (a := c.toNat) (by omega)
    rw [List.foldl_cons] at h
    refine g_la_howManyTied_17 hz hr ?_
    simp (disch := omega) only [zck_t, if_pos, if_neg, if_true, if_false, zwr_id, Int.toNat_natCast]
    refine e_ro_size hr hu (g_la_howManyTied_32 hz hr ?_)
    simp (disch := omega) only [zck_t, if_pos, if_neg, if_true, if_false, zwr_id, Int.toNat_natCast]
    refine e_ro_get hr hu ?_
    rw [rget_in (by omega), Int.toNat_natCast, h1]
    refine g_la_howManyTied_41 hz hr (e_la_passedBy hz hl ha (g_la_howManyTied_51 hz hr ?_))
    have hl1 := tdS_lt (P := P) ha hs
    have e := ih (k + 1) (tdS P s c) (zI c) h2 (by omega) hl1.1 (by omega) h
    simp (disch := omega) only [zck_t, if_pos, if_neg, if_true, if_false, zwr_id, Int.toNat_natCast, zandn_nat, zshl_1, zor_nat]
    rw [show ((k : Int) + 1) = ((k + 1 : Nat) : Int) by omega]
    unfold tdS at e
    by_cases g : s.1 ^^^ (s.1 &&& P c.toNat) = 0
    · rw [if_pos g] at e
      rw [if_pos (by omega)]
      exact e
    · rw [if_neg g] at e
      rw [if_neg (by omega)]
      exact e
theorem e_la_tiedBack {p : Nat} (hz : zLaw l) (hr : zRow r) (hl : lIs M l P R) (hp : ∀ a, a < 6 → P a < 64) (hu : rIs M r u) (hw : isW u) (hpl : p < u.length) (h : Q (tdN P (u.getD p 0) (u.take p).reverse : Int) (SH, M, L)) : zEv (d + 3) m_la_howManyTied [zR l, zR r, zI (p : Int), zI (-1)] (SH, M, L) Q := by
  have hc := zRow_cap hr
  have hul := hu.2.2
  refine b_la_howManyTied (g_la_howManyTied_0 hz hr (e_ro_get hr hu (g_la_howManyTied_6 hz hr ?_)))
  have ha := isW_at hw hpl
  have h2 := p6 (a := (u.getD p 0).toNat) (by omega)
  rw [rget_in (by omega), Int.toNat_natCast]
  simp (disch := omega) only [zck_t, if_pos, if_neg, if_true, if_false, zwr_id, Int.toNat_natCast, zshl_1]
  exact la_tied_back hz hr hl hp hu hw p (2 ^ (u.getD p 0).toNat, 0) zN (by omega) h2 (by dsimp only; omega) h
theorem e_la_tiedOn {p : Nat} (hz : zLaw l) (hr : zRow r) (hl : lIs M l P R) (hp : ∀ a, a < 6 → P a < 64) (hu : rIs M r u) (hw : isW u) (hpl : p < u.length) (h : Q (tdN P (u.getD p 0) (u.drop (p + 1)) : Int) (SH, M, L)) : zEv (d + 3) m_la_howManyTied [zR l, zR r, zI (p : Int), zI 1] (SH, M, L) Q := by
  have hc := zRow_cap hr
  have hul := hu.2.2
  refine b_la_howManyTied (g_la_howManyTied_0 hz hr (e_ro_get hr hu (g_la_howManyTied_6 hz hr ?_)))
  have ha := isW_at hw hpl
  have h2 := p6 (a := (u.getD p 0).toNat) (by omega)
  rw [rget_in (by omega), Int.toNat_natCast]
  simp (disch := omega) only [zck_t, if_pos, if_neg, if_true, if_false, zwr_id, Int.toNat_natCast, zshl_1]
  rw [show ((p : Int) + 1) = ((p + 1 : Nat) : Int) by omega]
  exact la_tied_on hz hr hl hp hu hw (u.drop (p + 1)) (p + 1) (2 ^ (u.getD p 0).toNat, 0) zN rfl (by omega) h2 (by dsimp only; omega) h
theorem la_lots_loop {n : Int} {z0 : Int} {m : Int} (hz : zLaw l) (hr : zRow r) (hlo : lOk P R) (hn : n ≤ 60) {M0 : zM} (hl0 : lIs M0 l P R) (h : ∀ M', rIs M' r (lots P n.toNat (u, z0, 0)).1 → rFr M0 M' r → Q ((lots P n.toNat (u, z0, 0)).2.2 : Int) (SH, M', L)) :
    ∀ (j : Nat) (s : List Int × Int × Nat) (k : Int) (Mk : zM) (v8 : zV), k + j = n → 0 ≤ k → s.2.2 ≤ k → isW s.1 → 2 ≤ s.1.length → s.1.length ≤ 28 → m = (s.1.length : Int) - 1 → lots P j s = lots P n.toNat (u, z0, 0) → rIs Mk r s.1 → rFr M0 Mk r →
      zEx (d + 4) m_la_drawLots zb0 Q 25 ([zR l, zR r, zI n, zI z0, zI m, zI s.2.1, zI (s.2.2 : Int), zI k, v8], [], SH, Mk, L) := by
  have hc := zRow_cap hr
  intro j
  induction j with
  | zero =>
    intro s k Mk v8 hk hk0 ht hw h2 h28 hm hj hu hf
    have hul := hu.2.2
    refine g_la_drawLots_25 hz hr ?_
    simp (disch := omega) only [zck_t, if_pos, if_neg, if_true, if_false, zwr_id, Int.toNat_natCast]
    have e := h Mk
    rw [← hj] at e
    exact e hu hf
  | succ j ih =>
    intro s k Mk v8 hk hk0 ht hw h2 h28 hm hj hu hf
    have hul := hu.2.2
    have hb := lotP_in (lotZ s.2.1) (m := m) (by omega) (by omega)
    have hok := lotS_ok (P := P) hw h2 h28
    have hl := zRow_law hr hz hf hl0
    have ha := isW_at hw (show (lotP (lotZ s.2.1) m).toNat < s.1.length by omega)
    have hb' := isW_at hw (show (lotP (lotZ s.2.1) m).toNat + 1 < s.1.length by omega)
    refine g_la_drawLots_25 hz hr ?_
    simp (disch := omega) only [zck_t, if_pos, if_neg, if_true, if_false, zwr_id, Int.toNat_natCast]
    show zEv (d + 3) m_ro_get [zR r, zI (lotP (lotZ s.2.1) m)] (SH, Mk, L) (fun x w => zEx (d + 4) m_la_drawLots zb0 Q 62 ([zR l, zR r, zI n, zI z0, zI m, zI (lotZ s.2.1), zI (s.2.2 : Int), zI k, zI (lotP (lotZ s.2.1) m)], [zI x, zR l], w))
    refine e_ro_get hr hu (g_la_drawLots_62 hz hr hz ?_)
    simp (disch := omega) only [zck_t, if_pos, if_neg, if_true, if_false, zwr_id, Int.toNat_natCast]
    refine e_ro_get hr hu (g_la_drawLots_70 hz hr hz ?_)
    rw [rget_in (by omega), rget_in (by omega), show (lotP (lotZ s.2.1) m + 1).toNat = (lotP (lotZ s.2.1) m).toNat + 1 by omega]
    refine e_la_letPass hz hl hlo ha hb' (g_la_drawLots_73 hz hr ?_)
    have e := ih (lotS P s) (k + 1)
    unfold lotS at e hok
    rw [← hm] at e hok
    by_cases g : psL P (s.1.getD (lotP (lotZ s.2.1) m).toNat 0) (s.1.getD ((lotP (lotZ s.2.1) m).toNat + 1) 0) = true
    · rw [if_pos g] at e hok ⊢
      refine zif_f (by decide) (e_ro_swapWithNext hr hu hb.1 (by omega) (fun M1 g1 f1 => g_la_drawLots_82 hz hr ?_))
      simp (disch := omega) only [zck_t, if_pos, if_neg, if_true, if_false, zwr_id, Int.toNat_natCast]
      have e2 := e M1 (zI (lotP (lotZ s.2.1) m)) (by omega) (by omega) (by dsimp only; omega) hok.1 (by omega) (by omega) (by omega) ?_ g1 (hf.tr f1)
      · exact e2
      · rw [← hj]
        show lots P j _ = lots P j (lotS P s)
        unfold lotS
        rw [← hm, if_pos g]
    · rw [if_neg g] at e hok ⊢
      refine zif_t (by decide) ?_
      simp (disch := omega) only [zck_t, if_pos, if_neg, if_true, if_false, zwr_id, Int.toNat_natCast]
      have e2 := e Mk (zI (lotP (lotZ s.2.1) m)) (by omega) (by omega) (by dsimp only; omega) hok.1 (by omega) (by omega) (by omega) ?_ hu hf
      · exact e2
      · rw [← hj]
        show lots P j _ = lots P j (lotS P s)
        unfold lotS
        rw [← hm, if_neg g]
theorem e_la_drawLots {n : Int} {z : Int} (hz : zLaw l) (hr : zRow r) (hl : lIs M l P R) (hlo : lOk P R) (hn : 1 ≤ n ∧ n ≤ 60) (hu : rIs M r u) (hw : isW u) (h2 : 2 ≤ u.length) (h28 : u.length ≤ 28) (h : ∀ M', rIs M' r (lots P n.toNat (u, z, 0)).1 → rFr M M' r → Q ((lots P n.toNat (u, z, 0)).2.2 : Int) (SH, M', L)) : zEv (d + 4) m_la_drawLots [zR l, zR r, zI n, zI z] (SH, M, L) Q := by
  refine b_la_drawLots (g_la_drawLots_0 hz hr (e_ro_size hr hu (g_la_drawLots_4 hz hr ?_)))
  simp (disch := omega) only [zck_t, if_pos, if_neg, if_true, if_false, zwr_id, Int.toNat_natCast]
  exact la_lots_loop hz hr hlo hn.2 hl h n.toNat (u, z, 0) 0 M zN (by omega) (by omega) (by dsimp only; omega) hw h2 h28 rfl rfl hu rFr.rf
end LD
