/-! Bench: blocks, beginnings, common ones -/
/-- letters taken one behind the other -/
def tks (ps : Int → Int → Bool) : List Int → List Int → Option (List Int)
  | [], v => some v
  | a :: u, v => match tk ps a v with
    | some v' => tks ps u v'
    | none => none
theorem tks_some {ps : Int → Int → Bool} {a : Int} {u v v' : List Int} (h : tk ps a v = some v') : tks ps (a :: u) v = tks ps u v' := by
  show (match tk ps a v with
    | some v' => tks ps u v'
    | none => none) = _
  rw [h]
theorem tks_none {ps : Int → Int → Bool} {a : Int} {u v : List Int} (h : tk ps a v = none) : tks ps (a :: u) v = none := by
  show (match tk ps a v with
    | some v' => tks ps u v'
    | none => none) = _
  rw [h]
/-- the common beginning -/
def cmn (P : Nat → Nat) : Nat → List Int → List Int → List Int
  | 0, _, _ => []
  | n + 1, u, v => if rdy P u &&& rdy P v = 0 then [] else (ntz (rdy P u &&& rdy P v) : Int) :: cmn P n (u.erase (ntz (rdy P u &&& rdy P v) : Int)) (v.erase (ntz (rdy P u &&& rdy P v) : Int))
theorem cmn_s {P : Nat → Nat} {n : Nat} {u v : List Int} : cmn P (n + 1) u v = if rdy P u &&& rdy P v = 0 then [] else (ntz (rdy P u &&& rdy P v) : Int) :: cmn P n (u.erase (ntz (rdy P u &&& rdy P v) : Int)) (v.erase (ntz (rdy P u &&& rdy P v) : Int)) := rfl
theorem cmn_len {P : Nat → Nat} : ∀ (n : Nat) (u v : List Int), (cmn P n u v).length ≤ n
  | 0, u, v => Nat.le_refl _
  | n + 1, u, v => by
    rw [cmn_s]
    split
    · simp
    · have := cmn_len (P := P) n (u.erase (ntz (rdy P u &&& rdy P v) : Int)) (v.erase (ntz (rdy P u &&& rdy P v) : Int))
      rw [List.length_cons]; omega
theorem ntz6 {s : Nat} (h : s < 64) (h0 : s ≠ 0) : ntz s < 6 := by
  obtain ⟨h1, h2, _⟩ := ntz_is (n := s) (by omega) h0
  rcases Nat.lt_or_ge (ntz s) 6 with q | q
  · exact q
  · rw [Nat.testBit_lt_two_pow (Nat.lt_of_lt_of_le h (show 2 ^ 6 ≤ 2 ^ ntz s from Nat.pow_le_pow_right (by omega) q))] at h2
    cases h2
theorem cmn_isW {P : Nat → Nat} : ∀ (n : Nat) (u v : List Int), isW u → isW v → isW (cmn P n u v)
  | 0, u, v, _, _ => fun a ha => by cases ha
  | n + 1, u, v, hu, hv => by
    rw [cmn_s]
    split
    · intro a ha; cases ha
    · next h =>
      intro a ha
      rcases List.mem_cons.mp ha with q | q
      · have := ntz6 (Nat.lt_of_le_of_lt Nat.and_le_left (rdy_lt (P := P) hu)) h
        omega
      · exact cmn_isW n _ _ (isW_erase hu) (isW_erase hv) a q
def cD : List Nat := [83, 84, 85, 86, 87, 88, 108, 109]
theorem zc108 : zln SH (108 + 1) = 28 := zl_109
theorem zc85 : zln SH (85 + 1) = 28 := zl85
theorem zc87 : zln SH (87 + 1) = 28 := zl87
section BG
variable {d : Nat} {M L : zM} {Q : Int → zW → Prop} {r o : Nat} {P R : Nat → Nat} {u v : List Int}
theorem rmv_len {s : Nat} {u : List Int} : ∀ k, (rmv s u k).length ≤ u.length
  | 0 => Nat.le_refl _
  | k + 1 => by
    have := rmv_len (s := s) (u := u) k
    unfold rmv
    split
    · have := List.length_erase_le (a := (k : Int)) (l := rmv s u k)
      omega
    · exact this
theorem be_blocks_in {s : Nat} {k : Int} {t v : List Int} (hr : zRow r) (hs : s < 64) (ht : t.length < 28) (h : ∀ M', rIs M' 83 (rmv s v 6) → rIs M' 108 (t ++ [(s : Int)]) → cFr [83, 84, 108, 109] M M' → zEx (d + 4) m_be_layBlocks zb0 Q 86 ([zR 82, zR r, zR 108, zI k, zI (s : Int), zI 6], [], SH, M', L)) :
    ∀ (n j : Nat) (Mj : zM), j + n = 6 → rIs Mj 83 (rmv s v j) → rIs Mj 108 t → cFr [83, 84, 108, 109] M Mj → zEx (d + 4) m_be_layBlocks zb0 Q 47 ([zR 82, zR r, zR 108, zI k, zI (s : Int), zI (j : Int)], [], SH, Mj, L) := by
  intro n
  induction n with
  | zero =>
    intro j Mj hj h1 h2 hf
    have hj : j = 6 := by omega
    subst hj
    refine g_be_layBlocks_47 hr zRow_108 ?_
    rw [if_neg (by decide)]
    refine e_ro_add zRow_108 h2 (fun M1 g1 f1 => ?_)
    rw [if_pos (by rw [zc108]; omega)] at g1
    exact h M1 (f1.row zRow_108 zRow_83 (by omega) h1) g1 (hf.tr (f1.c (by decide) (by decide)))
  | succ n ih =>
    intro j Mj hj h1 h2 hf
    refine g_be_layBlocks_47 hr zRow_108 ?_
    simp (disch := omega) only [zck_t, if_pos, if_neg, if_true, if_false, zwr_id, Int.toNat_natCast, zbit_if]
    have e := fun M' => ih (j + 1) M' (by omega)
    unfold rmv at e
    by_cases g : s.testBit j = true
    · rw [if_pos g]
      rw [if_pos g] at e
      refine e_ro_removeFirst zRow_83 h1 (fun M1 g1 f1 => g_be_layBlocks_74 hr zRow_108 ?_)
      rw [zwr_id (by omega) (by omega), show ((j : Int) + 1) = ((j + 1 : Nat) : Int) by omega]
      exact e M1 g1 (f1.row zRow_83 zRow_108 (by omega) h2) (hf.tr (f1.c (by decide) (by decide)))
    · rw [if_neg g]
      rw [if_neg g] at e
      refine g_be_layBlocks_74 hr zRow_108 ?_
      rw [zwr_id (by omega) (by omega), show ((j : Int) + 1) = ((j + 1 : Nat) : Int) by omega]
      exact e Mj h1 h2 hf
theorem be_blocks_out (hr : zRow r) (hlo : lOk P R) (hl : lIs M 1 P R) (h14 : u.length ≤ 14) (h : ∀ M', rIs M' 108 (blks P u.length u) → cFr [83, 84, 108, 109] M M' → Q 0 (SH, M', L)) :
    ∀ (k : Nat) (t v : List Int) (Mk : zM) (v4 v5 : zV), k ≤ 14 → t.length + k ≤ 14 → isW v → v.length ≤ k → blks P u.length u = t ++ blks P k v → rIs Mk 83 v → rIs Mk 108 t → cFr [83, 84, 108, 109] M Mk →
      zEx (d + 4) m_be_layBlocks zb0 Q 17 ([zR 82, zR r, zR 108, zI (k : Int), v4, v5], [], SH, Mk, L) := by
  intro k
  induction k with
  | zero =>
    intro t v Mk v4 v5 hk ht hw hv he h1 h2 hf
    refine g_be_layBlocks_17 hr zRow_108 ?_
    rw [if_neg (by decide)]
    rw [show blks P 0 v = [] from rfl, List.append_nil] at he
    exact h Mk (he ▸ h2) hf
  | succ k ih =>
    intro t v Mk v4 v5 hk ht hw hv he h1 h2 hf
    refine g_be_layBlocks_17 hr zRow_108 ?_
    simp (disch := omega) only [zck_t, if_pos, if_neg, if_true, if_false, zwr_id, Int.toNat_natCast]
    refine e_ro_size zRow_83 h1 (g_be_layBlocks_28 hr zRow_108 ?_)
    have hlk := hf.law hl (by decide) (by decide)
    rw [blks_s] at he
    by_cases q : v = []
    · subst q
      rw [if_pos rfl, List.append_nil] at he
      rw [if_neg (by simp)]
      exact h Mk (he ▸ h2) hf
    · have hv0 : 0 < v.length := List.length_pos_iff.mpr q
      rw [if_neg q] at he
      simp (disch := omega) only [zck_t, if_pos, if_neg, if_true, if_false, zwr_id, Int.toNat_natCast]
      refine e_la_readyLetters zLaw_1 zRow_83 hlk hlo.1 h1 hw (g_be_layBlocks_42 hr zRow_108 ?_)
      refine be_blocks_in hr (rdy_lt hw) (by omega) (fun M1 g1 g2 f1 => g_be_layBlocks_86 hr zRow_108 ?_) 6 0 Mk (by omega) h1 h2 cFr.rf
      rw [rmv_rest hlo hw] at g1
      rw [zwr_id (by omega) (by omega), show ((k + 1 : Nat) : Int) + -1 = (k : Int) by omega]
      have := rest_len (P := P) q
      exact ih (t ++ [(rdy P v : Int)]) (rest P v) M1 _ _ (by omega) (by simp; omega) (rest_isW hlo hw) (by omega) (by rw [he]; simp) g1 g2 (hf.tr f1)
theorem e_be_layBlocks (hr : zRow r) (hr6 : r + 1 < 64) (hlo : lOk P R) (hl : lIs M 1 P R) (hu : rIs M r u) (hw : isW u) (h14 : u.length ≤ 14) (h : ∀ M', rIs M' 108 (blks P u.length u) → cFr cD M M' → Q 0 (SH, M', L)) : zEv (d + 4) m_be_layBlocks [zR 82, zR r, zR 108] (SH, M, L) Q := by
  refine b_be_layBlocks (g_be_layBlocks_0 hr zRow_108 (e_ro_copy zRow_83 hr (by omega) hu (by rw [zl83]; omega) (fun M1 g1 f1 => g_be_layBlocks_8 hr zRow_108 (e_ro_clear zRow_108 (fun M2 g2 f2 => g_be_layBlocks_12 hr zRow_108 ?_)))))
  have hu1 := f2.row zRow_108 hr (by omega) (f1.row zRow_83 hr (by omega) hu)
  refine e_ro_size hr hu1 (g_be_layBlocks_16 hr zRow_108 ?_)
  have hf : cFr [83, 84, 108, 109] M M2 := (f1.c (by decide) (by decide)).tr (f2.c (by decide) (by decide))
  exact be_blocks_out hr hlo (hf.law hl (by decide) (by decide)) h14 (fun M' q1 q2 => h M' q1 ((hf.tr q2).up (by decide))) u.length [] u M2 zN zN h14 (by simpa using h14) hw (by omega) rfl (f2.row zRow_108 zRow_83 (by omega) g1) g2 cFr.rf
theorem be_begin_loop (hr : zRow r) (hr6 : r + 1 < 64) (ho : zRow o) (ho6 : o + 1 < 64) (hlo : lOk P R) (hl : lIs M 1 P R) (hu : rIs M o u) (hw : isW u)
    (h0 : tks (psL P) u v = none → ∀ M', cFr cD M M' → Q 0 (SH, M', L)) (h1 : ∀ w, tks (psL P) u v = some w → ∀ M', rIs M' 108 (lw P R false w) → cFr cD M M' → Q 1 (SH, M', L)) :
    ∀ (u' : List Int) (k : Nat) (x : List Int) (Mk : zM) (v5 : zV), u.drop k = u' → k ≤ u.length → isW x → x.length ≤ 14 → tks (psL P) u v = tks (psL P) u' x → rIs Mk 108 x → cFr cD M Mk →
      zEx (d + 6) m_be_takeBeginning zb0 Q 8 ([zR 82, zR r, zR o, zR 108, zI (k : Int), v5], [], SH, Mk, L) := by
  have hc := zRow_cap ho
  have hul := hu.2.2
  intro u'
  induction u' with
  | nil =>
    intro k x Mk v5 hd hk hx hx14 he h3 hf
    have : u.length ≤ k := by have := congrArg List.length hd; simp at this; omega
    have huk := hf.row hu (by unfold cD; simp; omega) (by unfold cD; simp; omega)
    have hlk := hf.law hl (by decide) (by decide)
    refine g_be_takeBeginning_8 hr ho zRow_108 (e_ro_size ho huk (g_be_takeBeginning_14 hr ho zRow_108 ?_))
    simp (disch := omega) only [zck_t, if_pos, if_neg, if_true, if_false, zwr_id, Int.toNat_natCast]
    refine e_be_arrange (last := false) zRow_108 zRow_108 (by omega) (by omega) h3 hx hlk hlo (by omega) (by rw [zc108]; omega) (fun M1 g1 f1 => g_be_takeBeginning_62 hr ho zRow_108 (h1 x he M1 g1 (hf.tr (f1.up (by decide)))))
  | cons a u' ih =>
    intro k x Mk v5 hd hk hx hx14 he h3 hf
    obtain ⟨q1, q2, q3⟩ := drop_cons hd
    have huk := hf.row hu (by unfold cD; simp; omega) (by unfold cD; simp; omega)
    have hlk := hf.law hl (by decide) (by decide)
    have ha := isW_at hw (show k < u.length by omega)
    rw [q1] at ha
    refine g_be_takeBeginning_8 hr ho zRow_108 (e_ro_size ho huk (g_be_takeBeginning_14 hr ho zRow_108 ?_))
    simp (disch := omega) only [zck_t, if_pos, if_neg, if_true, if_false, zwr_id, Int.toNat_natCast]
    refine e_ro_get ho huk ?_
    rw [rget_in (by omega), Int.toNat_natCast, q1]
    refine g_be_takeBeginning_23 hr ho zRow_108 (e_la_readyLetters zLaw_1 zRow_108 hlk hlo.1 h3 hx (g_be_takeBeginning_33 hr ho zRow_108 ?_))
    have hrl := rdy_lt (P := P) hx
    have e := zbit_nat (a := rdy P x) (k := a.toNat) (by omega) (by omega)
    rw [Int.toNat_of_nonneg ha.1] at e
    rw [e, rdy_bit hlo ha hx]
    cases hq : tk (psL P) a x with
    | none =>
      rw [tks_none hq] at he
      exact zif_t (by decide) (h0 he Mk hf)
    | some x' =>
      rw [tks_some hq] at he
      refine zif_f (by simp) (e_ro_removeFirst zRow_108 h3 (fun M1 g1 f1 => g_be_takeBeginning_49 hr ho zRow_108 ?_))
      have hxe := tk_erase hq
      have hxl := tk_len hq
      rw [← hxe] at g1
      rw [zwr_id (by omega) (by omega), show ((k : Int) + 1) = ((k + 1 : Nat) : Int) by omega]
      exact ih (k + 1) x' M1 _ q2 (by omega) (hxe ▸ isW_erase hx) (by omega) he g1 (hf.tr (f1.c (by decide) (by decide)))
theorem e_be_takeBeginning (hr : zRow r) (hr6 : r + 1 < 64) (ho : zRow o) (ho6 : o + 1 < 64) (hlo : lOk P R) (hl : lIs M 1 P R) (hu : rIs M o u) (hw : isW u) (hv : rIs M r v) (hwv : isW v) (hv14 : v.length ≤ 14)
    (h0 : tks (psL P) u v = none → ∀ M', cFr cD M M' → Q 0 (SH, M', L)) (h1 : ∀ w, tks (psL P) u v = some w → ∀ M', rIs M' 108 (lw P R false w) → cFr cD M M' → Q 1 (SH, M', L)) : zEv (d + 6) m_be_takeBeginning [zR 82, zR r, zR o, zR 108] (SH, M, L) Q := by
  refine b_be_takeBeginning (g_be_takeBeginning_0 hr ho zRow_108 (e_ro_copy zRow_108 hr (by omega) hv (by rw [zc108]; omega) (fun M1 g1 f1 => g_be_takeBeginning_5 hr ho zRow_108 ?_)))
  have hf : cFr cD M M1 := f1.c (by decide) (by decide)
  exact be_begin_loop hr hr6 ho ho6 hlo (hf.law hl (by decide) (by decide)) (hf.row hu (by unfold cD; simp; omega) (by unfold cD; simp; omega)) hw (fun q M' f => h0 q M' (hf.tr f)) (fun w q M' g f => h1 w q M' g (hf.tr f)) u 0 v M1 zN rfl (by omega) hwv hv14 rfl g1 cFr.rf
theorem be_common_loop (hr : zRow r) (ho : zRow o) (hlo : lOk P R) (hl : lIs M 1 P R) {n : Nat} (h : ∀ M', rIs M' 108 (lw P R false (cmn P n u v)) → cFr cD M M' → Q 0 (SH, M', L)) :
    ∀ (k : Nat) (t x y : List Int) (Mk : zM) (v5 v6 : zV), t.length + k ≤ 14 → isW x → isW y → isW t → cmn P n u v = t ++ cmn P k x y → rIs Mk 85 x → rIs Mk 87 y → rIs Mk 108 t → cFr cD M Mk →
      zEx (d + 6) m_be_takeCommon zb0 Q 26 ([zR 82, zR r, zR o, zR 108, zI (k : Int), v5, v6], [], SH, Mk, L) := by
  intro k
  induction k with
  | zero =>
    intro t x y Mk v5 v6 ht hx hy htw he h1 h2 h3 hf
    have hlk := hf.law hl (by decide) (by decide)
    refine g_be_takeCommon_26 hr ho zRow_108 ?_
    rw [if_neg (by decide)]
    rw [show cmn P 0 x y = [] from rfl, List.append_nil] at he
    refine e_be_arrange (last := false) zRow_108 zRow_108 (by omega) (by omega) h3 htw hlk hlo (by omega) (by rw [zc108]; omega) (fun M1 g1 f1 => g_be_takeCommon_108 hr ho zRow_108 (h M1 (he ▸ g1) (hf.tr (f1.up (by decide)))))
  | succ k ih =>
    intro t x y Mk v5 v6 ht hx hy htw he h1 h2 h3 hf
    have hlk := hf.law hl (by decide) (by decide)
    refine g_be_takeCommon_26 hr ho zRow_108 ?_
    simp (disch := omega) only [zck_t, if_pos, if_neg, if_true, if_false, zwr_id, Int.toNat_natCast]
    refine e_la_readyLetters zLaw_1 zRow_85 hlk hlo.1 h1 hx (g_be_takeCommon_42 hr ho zRow_108 (e_la_readyLetters zLaw_1 zRow_87 hlk hlo.1 h2 hy (g_be_takeCommon_53 hr ho zRow_108 ?_)))
    have hrx := rdy_lt (P := P) hx
    have hle : rdy P x &&& rdy P y ≤ rdy P x := Nat.and_le_left
    rw [zand_nat (by omega)]
    rw [cmn_s] at he
    by_cases q : rdy P x &&& rdy P y = 0
    · rw [if_pos q, List.append_nil] at he
      rw [if_pos (by omega)]
      refine e_be_arrange (last := false) zRow_108 zRow_108 (by omega) (by omega) h3 htw hlk hlo (by omega) (by rw [zc108]; omega) (fun M1 g1 f1 => g_be_takeCommon_108 hr ho zRow_108 (h M1 (he ▸ g1) (hf.tr (f1.up (by decide)))))
    · rw [if_neg q] at he
      rw [if_neg (by omega)]
      have h6 := ntz6 (by omega) q
      refine e_jd_ntz (by omega) (g_be_takeCommon_69 hr ho zRow_108 (e_ro_removeFirst zRow_85 h1 (fun M1 g1 f1 => g_be_takeCommon_80 hr ho zRow_108 (e_ro_removeFirst zRow_87 (f1.row zRow_85 zRow_87 (by omega) h2) (fun M2 g2 f2 => g_be_takeCommon_89 hr ho zRow_108 (e_ro_add zRow_108 (f2.row zRow_87 zRow_108 (by omega) (f1.row zRow_85 zRow_108 (by omega) h3)) (fun M3 g3 f3 => g_be_takeCommon_95 hr ho zRow_108 ?_)))))))
      rw [if_pos (by rw [zc108]; omega)] at g3
      rw [zwr_id (by omega) (by omega), show ((k + 1 : Nat) : Int) + -1 = (k : Int) by omega]
      refine ih (t ++ [(ntz (rdy P x &&& rdy P y) : Int)]) _ _ M3 _ _ (by simp; omega) (isW_erase hx) (isW_erase hy) (fun a ha => ?_) (by rw [he]; simp) (f3.row zRow_108 zRow_85 (by omega) (f2.row zRow_87 zRow_85 (by omega) g1)) (f3.row zRow_108 zRow_87 (by omega) g2) g3 (((hf.tr (f1.c (by decide) (by decide))).tr (f2.c (by decide) (by decide))).tr (f3.c (by decide) (by decide)))
      rcases List.mem_append.mp ha with z | z
      · exact htw a z
      · rw [List.mem_singleton.mp z]; omega
theorem e_be_takeCommon (hr : zRow r) (hr6 : r + 1 < 64) (ho : zRow o) (ho6 : o + 1 < 64) (hlo : lOk P R) (hl : lIs M 1 P R) (hu : rIs M r u) (hw : isW u) (hu14 : u.length ≤ 14) (hv : rIs M o v) (hwv : isW v) (hv14 : v.length ≤ 14)
    (h : ∀ M', rIs M' 108 (lw P R false (cmn P u.length u v)) → cFr cD M M' → Q 0 (SH, M', L)) : zEv (d + 6) m_be_takeCommon [zR 82, zR r, zR o, zR 108] (SH, M, L) Q := by
  refine b_be_takeCommon (g_be_takeCommon_0 hr ho zRow_108 (e_ro_copy zRow_85 hr (by omega) hu (by rw [zc85]; omega) (fun M1 g1 f1 => g_be_takeCommon_8 hr ho zRow_108 (e_ro_copy zRow_87 ho (by omega) (f1.row zRow_85 ho (by omega) hv) (by rw [zc87]; omega) (fun M2 g2 f2 => g_be_takeCommon_16 hr ho zRow_108 (e_ro_clear zRow_108 (fun M3 g3 f3 => g_be_takeCommon_20 hr ho zRow_108 ?_)))))))
  have hf : cFr cD M M3 := ((f1.c (by decide) (by decide)).tr (f2.c (by decide) (by decide))).tr (f3.c (by decide) (by decide))
  have hu3 := hf.row hu (by unfold cD; simp; omega) (by unfold cD; simp; omega)
  refine e_ro_size hr hu3 (g_be_takeCommon_24 hr ho zRow_108 ?_)
  exact be_common_loop hr ho hlo (hf.law hl (by decide) (by decide)) (fun M' g f => h M' g (hf.tr f)) u.length [] u v M3 zN zN (by simpa using hu14) hw hwv (fun a ha => by cases ha) rfl (f3.row zRow_108 zRow_85 (by omega) (f2.row zRow_87 zRow_85 (by omega) g1)) (f3.row zRow_108 zRow_87 (by omega) g2) g3 cFr.rf
end BG
