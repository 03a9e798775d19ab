/-! turned, by the reference -/
section MT
variable {d : Nat} {M M' L : zM} {Q : Int → zW → Prop} {P R : Nat → Nat} {ws : List (List Int)} {tx : List Int} {hs : List zLw} {kp : zKp} {ls : Nat → Option (List Int)} {rf : Nat → Int} {u w : List Int} {r k : Nat} {bf : List (List Int × Nat)}
theorem mo_nb (hr : zkd SH r = 20) (hu : aIs M r w) (hw : isW w) (h7 : w.length ≤ 7) (h : Q (nb w : Int) (SH, M, L)) : ∀ (n j : Nat), j + n = w.length → zEx (d + 1) m_mo_numberOf zb0 Q 5 ([zR 112, zR r, zI (w.length : Int), zI (nb (w.take j) : Int), zI (j : Int)], [], SH, M, L) := by
  intro n
  induction n with
  | zero =>
    intro j hj
    refine g_mo_numberOf_5 hr ?_
    rw [if_neg (by omega), List.take_of_length_le (by omega)]
    exact h
  | succ n ih =>
    intro j hj
    have hl := isW_at hw (show j < w.length by omega)
    have hb := nb_b hw j (by omega)
    have h6 : 6 ^ j ≤ 6 ^ 6 := Nat.pow_le_pow_right (by omega) (by omega)
    have h66 : (6 : Nat) ^ 6 = 46656 := by decide
    have hc := hu.2
    refine g_mo_numberOf_5 hr ?_
    rw [if_pos (by omega), zck_t (by omega), Int.toNat_natCast, hu.1 j (by omega), zwr_id (x := 6 * (nb (w.take j) : Int)) (by omega) (by omega), zwr_id (by omega) (by omega), show 6 * (nb (w.take j) : Int) + w.getD j 0 = ((nb (w.take (j + 1)) : Nat) : Int) by rw [nb_s (by omega)]; omega, zwr_id (by omega) (by omega), show ((j : Int) + 1) = ((j + 1 : Nat) : Int) by omega]
    exact ih (j + 1) (by omega)
theorem e_mo_numberOf (hr : zkd SH r = 20) (hu : aIs M r w) (hw : isW w) (h7 : w.length ≤ 7) (h : Q (nb w : Int) (SH, M, L)) : zEv (d + 1) m_mo_numberOf [zR 112, zR r, zI (w.length : Int)] (SH, M, L) Q :=
  b_mo_numberOf (g_mo_numberOf_0 hr (mo_nb hr hu hw h7 h w.length 0 (by omega)))
theorem mo_ly {M0 : zM} (hw : isW w) (h7 : w.length ≤ 7) (h : ∀ M', aIs M' 128 w → cFr [128] M0 M' → Q 0 (SH, M', L)) : ∀ (j : Nat) (Mk : zM), j ≤ w.length → (∀ i, j ≤ i → i < w.length → Mk 128 i = w.getD i 0) → cFr [128] M0 Mk → zEx (d + 1) m_mo_lays_ zb0 Q 8 ([zR 112, zI (nb w : Int), zR 128, zI (w.length : Int), zI (nb (w.take j) : Int), zI ((j : Int) - 1)], [], SH, Mk, L) := by
  intro j
  induction j with
  | zero =>
    intro Mk hj h1 hf
    refine g_mo_lays__8 zk_128 ?_
    rw [if_pos (by omega)]
    exact h Mk ⟨fun i hi => h1 i (by omega) hi, by rw [zl_128]; omega⟩ hf
  | succ j ih =>
    intro Mk hj h1 hf
    have hl := isW_at hw (show j < w.length by omega)
    have hb := nb_b hw (j + 1) hj
    have h6 : 6 ^ (j + 1) ≤ 6 ^ 7 := Nat.pow_le_pow_right (by omega) (by omega)
    have h66 : (6 : Nat) ^ 7 = 279936 := by decide
    refine g_mo_lays__8 zk_128 ?_
    rw [if_neg (by omega), zl_128, zck_t (by omega), show zdiv (nb (w.take (j + 1)) : Int) 6 = ((nb (w.take (j + 1)) / 6 : Nat) : Int) from zdiv_nat (b := 6) (by omega) (by omega) (by omega), show zrem (nb (w.take (j + 1)) : Int) 6 = ((nb (w.take (j + 1)) % 6 : Nat) : Int) from zrem_nat (b := 6) (by omega) (by omega) (by omega), nb_s (by omega), show (nb (w.take j) * 6 + (w.getD j 0).toNat) / 6 = nb (w.take j) by omega, show (nb (w.take j) * 6 + (w.getD j 0).toNat) % 6 = (w.getD j 0).toNat by omega, show (((w.getD j 0).toNat : Nat) : Int) = w.getD j 0 by omega, show ((j + 1 : Nat) : Int) - 1 = (j : Int) by omega, Int.toNat_natCast, zwr_id (by omega) (by omega), show (j : Int) + -1 = (j : Int) - 1 by omega]
    refine ih _ (by omega) (fun i hi hi' => ?_) (fun c hc => ?_)
    · by_cases e : i = j
      · rw [e, zmu_s]
      · rw [zmu_j e]; exact h1 i (by omega) hi'
    · rw [zmu_kf (by simpa using hc)]; exact hf c hc
theorem e_mo_lays_ (hw : isW w) (h7 : w.length ≤ 7) (h : ∀ M', aIs M' 128 w → cFr [128] M M' → Q 0 (SH, M', L)) : zEv (d + 1) m_mo_lays_ [zR 112, zI (nb w : Int), zR 128, zI (w.length : Int)] (SH, M, L) Q := by
  refine b_mo_lays_ (g_mo_lays__0 zk_128 ?_)
  rw [zwr_id (by omega) (by omega)]
  have := mo_ly (d := d) (L := L) (Q := Q) (M0 := M) hw h7 h w.length M (Nat.le_refl _) (fun i hi hi' => by omega) cFr.rf
  rw [List.take_length] at this
  exact this
def mB (M : zM) (bf : List (List Int × Nat)) : Prop := M 112 33 = (bf.length : Int) ∧ bf.length ≤ 64 ∧ ∀ i, i < bf.length → M 138 i = (nb (bw bf i) : Int) ∧ M 139 i = (bm bf i : Int)
theorem mB.of (h : mB M bf) (g : ∀ k, k ∈ [112, 138, 139] → M' k = M k) : mB M' bf := by
  refine ⟨by rw [g 112 (by decide)]; exact h.1, h.2.1, fun i hi => ?_⟩
  rw [g 138 (by decide), g 139 (by decide)]
  exact h.2.2 i hi
/-- how the reference goes on -/
def fM3 (M M' : zM) : Prop := (∀ k, k ∉ [112, 128, 130, 131, 138, 139] → M' k = M k) ∧ ∀ j, j ≠ 33 → M' 112 j = M 112 j
theorem fM3.r0 : fM3 M M := ⟨fun _ _ => rfl, fun _ _ => rfl⟩
theorem fM3.tr {M'' : zM} (h : fM3 M M') (h' : fM3 M' M'') : fM3 M M'' := ⟨fun k hk => (h'.1 k hk).trans (h.1 k hk), fun j hj => (h'.2 j hj).trans (h.2 j hj)⟩
theorem fM3.c {S : List Nat} (h : cFr S M M') (hS : ∀ k ∈ S, k = 128 ∨ k = 130 ∨ k = 131) : fM3 M M' := ⟨fun k hk => h k (fun z => hk (by have := hS k z; simp; omega)), fun j _ => by rw [h 112 (fun z => by have := hS _ z; omega)]⟩
theorem fM3.l (h : fM3 M M') (hl : lIs M 112 P R) : lIs M' 112 P R := fun a ha => by
  rw [h.1 (112 + 1) (by decide), h.1 (112 + 2) (by decide)]; exact hl a ha
theorem e_mo_finds {y : List Int} {m : Nat} (ht : mB M bf) (hW : ∀ i, i < bf.length → isW (bw bf i) ∧ (bw bf i).length = y.length) (hy : isW y) (h64 : (bfA bf y m).length ≤ 64)
    (h : ∀ M', mB M' (bfA bf y m) → fM3 M M' → Q 0 (SH, M', L)) : zEv (d + 1) m_mo_finds [zR 112, zI (nb y : Int), zI (m : Int)] (SH, M, L) Q := by
  have hb := ht.2.1
  have loop : ∀ (n j : Nat), j + n = bf.length → (∀ i, i < j → bw bf i ≠ y) → zEx (d + 1) m_mo_finds zb0 Q 2 ([zR 112, zI (nb y : Int), zI (m : Int), zI (j : Int)], [], SH, M, L) := by
    intro n
    induction n with
    | zero =>
      intro j hj h3
      have hin : ¬ y ∈ bf.map (fun p => p.1) := fun z => by
        obtain ⟨i, i1, i2⟩ := bw_in.mp z
        exact h3 i (by omega) i2
      unfold bfA at h h64
      rw [if_neg hin] at h h64
      have hlt : bf.length < 64 := by rw [List.length_append, List.length_singleton] at h64; omega
      refine g_mo_finds_2 ?_
      have e1 : zmu M 138 bf.length (nb y : Int) 112 33 = (bf.length : Int) := by rw [zmu_k (by decide)]; exact ht.1
      have e2 : zmu (zmu M 138 bf.length (nb y : Int)) 139 bf.length (m : Int) 112 33 = (bf.length : Int) := by rw [zmu_k (by decide)]; exact e1
      rw [ht.1, if_neg (by omega)]
      simp only [Int.toNat_natCast, e1, e2]
      rw [zck_t (by omega), zck_t (by omega), zwr_id (by omega) (by omega)]
      refine h _ ⟨?_, h64, fun i hi => ?_⟩ ⟨fun c hc => ?_, fun j hj => ?_⟩
      · rw [zmu_s]; simp
      · by_cases e : i = bf.length
        · subst e
          unfold bw bm
          rw [getD_new]
          exact ⟨by rw [zmu_k (by decide), zmu_k (by decide), zmu_s], by rw [zmu_k (by decide), zmu_s]⟩
        · have hi' : i < bf.length := by rw [List.length_append, List.length_singleton] at hi; omega
          unfold bw bm
          rw [getD_app hi']
          exact ⟨by rw [zmu_k (by decide), zmu_k (by decide), zmu_j e]; exact (ht.2.2 i hi').1, by rw [zmu_k (by decide), zmu_j e, zmu_k (by decide)]; exact (ht.2.2 i hi').2⟩
      · have hc' : c ≠ 112 ∧ c ≠ 138 ∧ c ≠ 139 := by
          refine ⟨fun z => hc (by rw [z]; decide), fun z => hc (by rw [z]; decide), fun z => hc (by rw [z]; decide)⟩
        rw [zmu_kf hc'.1, zmu_kf hc'.2.2, zmu_kf hc'.2.1]
      · rw [zmu_j hj, zmu_k (by decide), zmu_k (by decide)]
    | succ n ih =>
      intro j hj h3
      refine g_mo_finds_2 ?_
      have hWj := hW j (by omega)
      have hi := nb_inj hWj.1 hy hWj.2
      rw [ht.1, if_pos (by omega), zck_t (by omega), Int.toNat_natCast, (ht.2.2 j (by omega)).1]
      by_cases e : bw bf j = y
      · rw [if_pos (by rw [e])]
        have hin : y ∈ bf.map (fun p => p.1) := bw_in.mpr ⟨j, by omega, e⟩
        unfold bfA at h
        rw [if_pos hin] at h
        exact h M ht fM3.r0
      · rw [if_neg (fun z => e (hi.mp (by omega))), zwr_id (by omega) (by omega), show ((j : Int) + 1) = ((j + 1 : Nat) : Int) by omega]
        refine ih (j + 1) (by omega) (fun i hi => ?_)
        by_cases q : i = j
        · rw [q]; exact e
        · exact h3 i (by omega)
  exact b_mo_finds (g_mo_finds_0 (loop bf.length 0 (by omega) (fun i hi => by omega)))
def pl1 (x : List Int) (p : Nat) : List Int := x.take p ++ x.drop (p + 1) ++ [x.getD p 0]
theorem pl1_len {x : List Int} {p : Nat} (hp : p < x.length) : (pl1 x p).length = x.length := by
  unfold pl1
  rw [List.length_append, List.length_append, List.length_take, List.length_drop, List.length_singleton]
  omega
theorem pl1_W {x : List Int} (hw : isW x) {p : Nat} (hp : p < x.length) : isW (pl1 x p) := fun b hb => by
  rcases List.mem_append.mp hb with z | z
  · exact isW_del hw p b z
  · rw [List.mem_singleton.mp z]
    exact isW_at hw hp
theorem mo_tp {M0 : zM} {x1 : Int} {x : List Int} {dk : Nat} (hl : lIs M0 112 P R) (ho : lOk P R) (hw : isW u) (h7 : u.length ≤ 7) (hu : lw P R false u = u)
    (h : ∀ M' bf' (v5 : zV), mB M' bf' → bfI P R u bf' (k + 1) → bfD bf' → fM3 M0 M' → zEx (d + 4) m_mo_turnsAll zb0 Q 46 ([zR 112, zI x1, zI (u.length : Int), zI ((k + 1 : Nat) : Int), zI (u.length : Int), v5], [], SH, M', L)) :
    ∀ (n p : Nat) (Mk : zM) (bf : List (List Int × Nat)) (v5 : zV), p + n = u.length → mB Mk bf → bfI P R u bf k → bfD bf → k < bf.length → bf.getD k zbf0 = (x, dk) → (∀ q, q < p → rp P x q = true → ∃ m, (lw P R false (pl1 x q), m) ∈ bf ∧ m ≤ dk + 1) → fM3 M0 Mk → zEx (d + 4) m_mo_turnsAll zb0 Q 57 ([zR 112, zI x1, zI (u.length : Int), zI (k : Int), zI (p : Int), v5], [], SH, Mk, L) := by
  intro n
  induction n with
  | zero =>
    intro p Mk bf v5 hp ht hi hD hk hx hdone hf
    have hb := ht.2.1
    have hp : p = u.length := by omega
    subst hp
    refine g_mo_turnsAll_57 ?_
    rw [if_neg (by omega), zwr_id (by omega) (by omega), show ((k : Int) + 1) = ((k + 1 : Nat) : Int) by omega]
    have hxr := bfI_W hw hi hk
    unfold bw at hxr
    rw [hx] at hxr
    have hxl : x.length = u.length := hxr.2
    refine h Mk bf v5 ht (bfI_s hi hk (fun y hy => ?_)) hD hf
    unfold bw at hy
    unfold bm
    rw [hx] at hy ⊢
    obtain ⟨b, x', h1, h2⟩ := hy
    obtain ⟨q, q1, q2, q3⟩ := tk_place h1
    have hrp : rp P x q = true := by unfold rp; rw [q2]; exact q3
    have h3 := tk_at (psL_irr P) x q q1 (by rw [q2]; exact q3)
    rw [q2, h1] at h3
    cases h3
    obtain ⟨m, m1, m2⟩ := hdone q (by omega) hrp
    refine ⟨m, ?_, m2⟩
    unfold pl1 at m1
    rw [q2] at m1
    rw [h2]; exact m1
  | succ n ih =>
    intro p Mk bf v5 hp ht hi hD hk hx hdone hf
    have hb := ht.2.1
    have hxr := bfI_W hw hi hk
    have hbm : bm bf k = dk := by unfold bm; rw [hx]
    have hbw : bw bf k = x := by unfold bw; rw [hx]
    rw [hbw] at hxr
    obtain ⟨hxW, hxl⟩ := hxr
    have hDk := hD k hk
    refine g_mo_turnsAll_57 ?_
    rw [if_pos (by omega), zck_t (by omega), Int.toNat_natCast, (ht.2.2 k hk).1, hbw, ← hxl]
    refine e_mo_lays_ hxW (by omega) (fun M1 a1 f1 => g_mo_turnsAll_78 ?_)
    have F1 : fM3 Mk M1 := fM3.c f1 (by simp)
    have t1 : mB M1 bf := ht.of (fun k hk => f1 k (by intro z; simp at hk z; omega))
    refine e_mo_isReady zk_128 (by rw [zl_128]; omega) (F1.l (hf.l hl)) ho a1 hxW (by omega) (g_mo_turnsAll_88 ?_)
    have next : ∀ (Mn : zM) (bn : List (List Int × Nat)) (v5 : zV), mB Mn bn → bfI P R u bn k → bfD bn → k < bn.length → bn.getD k zbf0 = (x, dk) → (∀ q, q < p + 1 → rp P x q = true → ∃ m, (lw P R false (pl1 x q), m) ∈ bn ∧ m ≤ dk + 1) → fM3 M0 Mn → zEx (d + 4) m_mo_turnsAll zb0 Q 158 ([zR 112, zI x1, zI (x.length : Int), zI (k : Int), zI (p : Int), v5], [], SH, Mn, L) := fun Mn bn v5 b1 b2 b3 b4 b5 b6 b7 => by
      refine g_mo_turnsAll_158 ?_
      rw [zwr_id (by omega) (by omega), show ((p : Int) + 1) = ((p + 1 : Nat) : Int) by omega, hxl]
      exact ih (p + 1) Mn bn v5 (by omega) b1 b2 b3 b4 b5 b6 b7
    cases g : rp P x p
    · refine zif_t (by simp) ?_
      exact next M1 bf _ t1 hi hD hk hx (fun q hq hr => by
        by_cases e : q = p
        · rw [e, g] at hr; cases hr
        · exact hdone q (by omega) hr) (hf.tr F1)
    · refine zif_f (by simp) ?_
      rw [zck_t (by omega), Int.toNat_natCast, a1.1 p (by omega)]
      refine e_mo_goes zk_128 (by rw [zl_128]; omega) a1 (by omega) rfl (fun M2 a2 f2 => g_mo_turnsAll_113 ?_)
      rw [zwr_id (by omega) (by omega), zck_t (by omega), show ((x.length : Int) - 1).toNat = x.length - 1 by omega]
      have hdl : (x.take p ++ x.drop (p + 1)).length = x.length - 1 := by rw [List.length_append, List.length_take, List.length_drop]; omega
      have a3 : aIs (zmu M2 128 (x.length - 1) (x.getD p 0)) 128 (pl1 x p) := by
        refine ⟨fun j hj => ?_, by rw [zl_128, pl1_len (by omega)]; omega⟩
        rw [pl1_len (by omega)] at hj
        unfold pl1
        by_cases e : j = x.length - 1
        · rw [e, zmu_s, ← hdl, getD_new]
        · rw [zmu_j e, getD_app (by omega)]
          exact a2.1 j (by omega)
      have c3 : cFr [128] M2 (zmu M2 128 (x.length - 1) (x.getD p 0)) := fun c hc => zmu_kf (by simpa using hc)
      have F3 : fM3 M1 (zmu M2 128 (x.length - 1) (x.getD p 0)) := fM3.c (f2.tr c3) (by simp)
      have tk3 := e_mo_takes (d := d) (L := L) (M := zmu M2 128 (x.length - 1) (x.getD p 0)) (last := false) (o := 131) (u := pl1 x p) (P := P) (R := R) (Q := fun _ w => zEx (d + 4) m_mo_turnsAll zb0 Q 137 ([zR 112, zI x1, zI (x.length : Int), zI (k : Int), zI (p : Int), zI (x.getD p 0)], [], w)) zk_128 (by decide) zk_131 (by decide) (by decide) (by decide) (by rw [zl_131, pl1_len (by omega)]; omega) (F3.l (F1.l (hf.l hl))) ho a3 (pl1_W hxW (by omega)) (by rw [pl1_len (by omega)]; omega)
      rw [pl1_len (by omega)] at tk3
      refine tk3 (fun M4 a4 f4 => g_mo_turnsAll_137 ?_)
      have hyW := lw_isW (P := P) (R := R) (last := false) (pl1_W hxW (show p < x.length by omega))
      have hyl : (lw P R false (pl1 x p)).length = x.length := by rw [lw_len, pl1_len (by omega)]
      have nbc := e_mo_numberOf (d := d + 2) (M := M4) (L := L) (w := lw P R false (pl1 x p)) (Q := fun x' w => zEx (d + 4) m_mo_turnsAll zb0 Q 147 ([zR 112, zI x1, zI (x.length : Int), zI (k : Int), zI (p : Int), zI (x.getD p 0)], [zI x', zR 112], w)) zk_131 a4 hyW (by omega)
      rw [hyl] at nbc
      refine nbc (g_mo_turnsAll_147 ?_)
      have F4 : fM3 (zmu M2 128 (x.length - 1) (x.getD p 0)) M4 := fM3.c f4 (by simp)
      have t4 : mB M4 bf := t1.of (fun k hk => by
        rw [f4 k (by intro z; simp at hk z; omega), c3 k (by intro z; simp at hk z; omega), f2 k (by intro z; simp at hk z; omega)])
      have hmv : mv P R (bw bf k) (lw P R false (pl1 x p)) := by
        rw [hbw]
        refine ⟨x.getD p 0, x.take p ++ x.drop (p + 1), tk_at (psL_irr P) x p (by omega) g, rfl⟩
      have A := bfI_A hi hk hmv
      have i1 := A.1
      have i2 := A.2.1
      have i3 := A.2.2.1
      have i4 := A.2.2.2.1
      have i5 := A.2.2.2.2
      rw [zck_t (by omega), Int.toNat_natCast, (t4.2.2 k hk).2, zwr_id (by omega) (by omega), show (bm bf k : Int) + 1 = ((bm bf k + 1 : Nat) : Int) by omega]
      refine e_mo_finds t4 (fun i hi' => ⟨(bfI_W hw hi hi').1, by rw [(bfI_W hw hi hi').2, hyl, hxl]⟩) hyW (bfI_64 ho hw hu h7 i1) (fun M5 t5 f5 => ?_)
      refine next M5 _ _ t5 i1 (bfD_A hD hk) i2 (i3.trans hx) (fun q hq hr => ?_) (hf.tr (F1.tr (F3.tr (F4.tr f5))))
      by_cases e : q = p
      · rw [e, ← hbm]
        exact i4
      · obtain ⟨m, m1, m2⟩ := hdone q (by omega) hr
        exact ⟨m, i5 _ m1, m2⟩
end MT
