/-! history, lists, shelf -/
abbrev zLw : Type := (Nat → Nat) × (Nat → Nat)
abbrev zlw0 : zLw := (fun _ => 0, fun _ => 0)
/-- the history of the class, the latest first -/
def hC (M : zM) (hs : List zLw) : Prop := ∃ nx : Nat, nx < 8 ∧ M 21 2 = (nx : Int) ∧ M 21 1 = (hs.length : Int) ∧ hs.length ≤ 8 ∧ ∀ i, i < hs.length → lIs M (23 + 3 * ((nx + 7 - i) % 8)) (hs.getD i zlw0).1 (hs.getD i zlw0).2 ∧ lOk (hs.getD i zlw0).1 (hs.getD i zlw0).2
/-- of the reference -/
def hM (M : zM) (hs : List zLw) : Prop := M 112 8 = (hs.length : Int) ∧ hs.length ≤ 8 ∧ ∀ i, i < hs.length → ∀ a, a < 6 → M 119 (12 * (hs.length - 1 - i) + a) = ((hs.getD i zlw0).1 a : Int) ∧ M 119 (12 * (hs.length - 1 - i) + 6 + a) = ((hs.getD i zlw0).2 a : Int)
/-- the lists -/
def nC (M : zM) (ls : Nat → Option (List Int)) : Prop := ∀ l, l < 3 → match ls l with
  | none => M 72 l = 0
  | some xs => M 72 l = 1 ∧ rIs M (75 + 2 * l) xs
def nM (M : zM) (ls : Nat → Option (List Int)) : Prop := ∀ l, l < 3 → match ls l with
  | none => M 124 l = -9
  | some xs => M 124 l = (xs.length : Int) ∧ xs.length ≤ 40 ∧ ∀ j, j < xs.length → M 125 (40 * l + j) = xs.getD j 0
def lsSet (ls : Nat → Option (List Int)) (l : Nat) (xs : List Int) : Nat → Option (List Int) := fun k => if k = l then some xs else ls k
/-- what history lies in -/
def cH : List Nat := [21, 24, 25, 27, 28, 30, 31, 33, 34, 36, 37, 39, 40, 42, 43, 45, 46]
theorem cH_of : ∀ k, k < 8 → 23 + 3 * k + 1 ∈ cH ∧ 23 + 3 * k + 2 ∈ cH := by decide
section KP
variable {d : Nat} {M L : zM} {Q : Int → zW → Prop} {l o r s t : Nat} {P R : Nat → Nat} {a b : Int} {u v : List Int} {hs : List zLw} {ls : Nat → Option (List Int)} {ws : List (List Int)}
theorem hC.fr {S : List Nat} {M M' : zM} (h : hC M hs) (hf : cFr S M M') (hS : ∀ k ∈ cH, k ∉ S) : hC M' hs := by
  obtain ⟨nx, h1, h2, h3, h4, h5⟩ := h
  refine ⟨nx, h1, by rw [hf 21 (hS 21 (by decide))]; exact h2, by rw [hf 21 (hS 21 (by decide))]; exact h3, h4, fun i hi => ⟨?_, (h5 i hi).2⟩⟩
  have e := cH_of ((nx + 7 - i) % 8) (by omega)
  exact hf.law (h5 i hi).1 (hS _ e.1) (hS _ e.2)
theorem e_hi_size (h0 : hC M hs) (h : Q (hs.length : Int) (SH, M, L)) : zEv (d + 1) m_hi_size [zR 21] (SH, M, L) Q := by
  obtain ⟨nx, h1, h2, h3, h4, h5⟩ := h0
  refine b_hi_size (g_hi_size_0 ?_)
  rw [h3]; exact h
theorem e_hi_clear (h0 : hC M hs) (h : ∀ M', hC M' [] → cFr [21] M M' → Q 0 (SH, M', L)) : zEv (d + 1) m_hi_clear [zR 21] (SH, M, L) Q := by
  obtain ⟨nx, h1, h2, h3, h4, h5⟩ := h0
  refine b_hi_clear (g_hi_clear_0 (h _ ⟨nx, h1, by rw [zmu_j (by omega)]; exact h2, by rw [zmu_s]; rfl, by simp, fun i hi => by simp at hi⟩ (fun k hk => zmu_kf (by simpa using hk))))
theorem e_hi_remember (h0 : hC M hs) (hl : lIs M 1 P R) (hlo : lOk P R) (h : ∀ M', hC M' (((P, R) :: hs).take 8) → cFr cH M M' → Q 0 (SH, M', L)) : zEv (d + 2) m_hi_remember [zR 21, zR 1] (SH, M, L) Q := by
  obtain ⟨nx, h1, h2, h3, h4, h5⟩ := h0
  obtain ⟨z1, z2⟩ := zHis h1
  refine b_hi_remember (g_hi_remember_0 zLaw_1 ?_)
  rw [h2, Int.toNat_natCast]
  simp (disch := omega) only [zck_t, if_pos, if_neg, if_true, if_false, zwr_id, Int.toNat_natCast, zom_t z2, zkq_t z1.1]
  refine e_la_copy z1 zLaw_1 (by omega) (by omega) (by omega) hl (fun M1 g1 f1 => g_hi_remember_13 zLaw_1 ?_)
  have e21 : M1 21 = M 21 := f1 21 (by omega) (by omega)
  rw [zmu_j (by omega), e21, h2, h3]
  have er : zrem (zwr ((nx : Int) + 1)) 8 = (((nx + 1) % 8 : Nat) : Int) := by
    rw [zwr_id (by omega) (by omega), show ((nx : Int) + 1) = ((nx + 1 : Nat) : Int) by omega]
    exact zrem_nat (b := 8) (by omega) (by omega) (by omega)
  rw [er, zwr_id (by omega) (by omega)]
  have hlen : (((P, R) :: hs).take 8).length = min (hs.length + 1) 8 := by rw [List.length_take, List.length_cons]; omega
  refine h _ ⟨(nx + 1) % 8, by omega, by rw [zmu_j (by omega), zmu_s], ?_, by omega, fun i hi => ?_⟩ (fun k hk => ?_)
  · rw [zmu_s, hlen]; unfold zmin; omega
  · rw [hlen] at hi
    have e4 : (((P, R) :: hs).take 8).getD i zlw0 = ((P, R) :: hs).getD i zlw0 := by
      rw [List.getD_eq_getElem?_getD, List.getD_eq_getElem?_getD, List.getElem?_take_of_lt (by omega)]
    rw [e4]
    have hf : ∀ c, c ≠ 21 → zmu (zmu M1 21 2 (((nx + 1) % 8 : Nat) : Int)) 21 1 (zmin ((hs.length : Int) + 1) 8) c = M1 c := fun c hc => by rw [zmu_kf hc, zmu_kf hc]
    cases i with
    | zero =>
      refine ⟨fun c hc => ?_, hlo⟩
      have e5 : ((nx + 1) % 8 + 7 - 0) % 8 = nx := by omega
      rw [e5, hf _ (by omega), hf _ (by omega)]
      exact g1 c hc
    | succ i =>
      have e5 : ((nx + 1) % 8 + 7 - (i + 1)) % 8 = (nx + 7 - i) % 8 := by omega
      rw [e5, List.getD_cons_succ]
      have e6 := h5 i (by omega)
      refine ⟨fun c hc => ?_, e6.2⟩
      rw [hf _ (by omega), hf _ (by omega), f1 _ (by omega) (by omega), f1 _ (by omega) (by omega)]
      exact e6.1 c hc
  · have e7 := cH_of nx h1
    have hk21 : k ≠ 21 := fun q => hk (q ▸ (by decide))
    rw [zmu_kf hk21, zmu_kf hk21]
    exact f1 k (fun q => hk (q ▸ e7.1)) (fun q => hk (q ▸ e7.2))
theorem e_hi_takeBack {p : zLw} (h0 : hC M (p :: hs)) (h : ∀ M', hC M' hs → lIs M' 1 p.1 p.2 → lOk p.1 p.2 → cFr [2, 3, 21] M M' → Q 0 (SH, M', L)) : zEv (d + 2) m_hi_takeBack [zR 21, zR 1] (SH, M, L) Q := by
  obtain ⟨nx, h1, h2, h3, h4, h5⟩ := h0
  rw [List.length_cons] at h3 h4
  refine b_hi_takeBack (g_hi_takeBack_0 zLaw_1 ?_)
  have er : zrem (zwr (zwr ((nx : Int) + 8) - 1)) 8 = (((nx + 7) % 8 : Nat) : Int) := by
    rw [zwr_id (x := (nx : Int) + 8) (by omega) (by omega), zwr_id (by omega) (by omega), show ((nx : Int) + 8 - 1) = ((nx + 7 : Nat) : Int) by omega]
    exact zrem_nat (b := 8) (by omega) (by omega) (by omega)
  rw [h2, er]
  obtain ⟨z1, z2⟩ := zHis (k := (nx + 7) % 8) (by omega)
  have e1 : ∀ v, zmu (zmu M 21 2 (((nx + 7) % 8 : Nat) : Int)) 21 1 v 21 2 = (((nx + 7) % 8 : Nat) : Int) := fun v => by rw [zmu_j (by omega), zmu_s]
  have e2 : zmu M 21 2 (((nx + 7) % 8 : Nat) : Int) 21 1 = (hs.length : Int) + 1 := by rw [zmu_j (by omega), h3]; omega
  rw [e1, e2, h3]
  rw [zwr_id (by omega) (by omega), show ((hs.length : Int) + 1 - 1) = hs.length by omega]
  simp (disch := omega) only [zck_t, if_pos, if_neg, if_true, if_false, zwr_id, Int.toNat_natCast, zom_t z2]
  have h50 := h5 0 (by simp)
  have e5 : (nx + 7 - 0) % 8 = (nx + 7) % 8 := rfl
  rw [e5] at h50
  have hf : ∀ c, c ≠ 21 → zmu (zmu M 21 2 (((nx + 7) % 8 : Nat) : Int)) 21 1 (hs.length : Int) c = M c := fun c hc => by rw [zmu_kf hc, zmu_kf hc]
  refine e_la_copy zLaw_1 z1 (by omega) (by omega) (by omega) (P := p.1) (R := p.2) (fun c hc => ?_) (fun M1 g1 f1 => g_hi_takeBack_47 zLaw_1 (h M1 ⟨(nx + 7) % 8, by omega, ?_, ?_, by omega, fun i hi => ?_⟩ g1 h50.2 (fun k hk => ?_)))
  · rw [hf _ (by omega), hf _ (by omega)]; exact h50.1 c hc
  · rw [f1 21 (by omega) (by omega), e1]
  · rw [f1 21 (by omega) (by omega), zmu_s]
  · have e6 := h5 (i + 1) (by simp; omega)
    rw [List.getD_cons_succ] at e6
    have e7 : ((nx + 7) % 8 + 7 - i) % 8 = (nx + 7 - (i + 1)) % 8 := by omega
    rw [e7]
    refine ⟨fun c hc => ?_, e6.2⟩
    rw [f1 _ (by omega) (by omega), f1 _ (by omega) (by omega), hf _ (by omega), hf _ (by omega)]
    exact e6.1 c hc
  · simp at hk
    rw [f1 k (by omega) (by omega), hf k (by omega)]
/-! lists -/
theorem e_nu_lacks (h0 : nC M ls) (ha : 0 ≤ a ∧ a < 3) (h : Q (if (ls a.toNat).isSome then 0 else 1) (SH, M, L)) : zEv (d + 2) m_nu_lacks [zR 70, zI a] (SH, M, L) Q := by
  refine b_nu_lacks (g_nu_lacks_0 (e_lt_noList (g_nu_lacks_4 ?_)))
  have h1 := h0 a.toNat (by omega)
  simp (disch := omega) only [zck_t, if_pos, if_neg, if_true, if_false, zwr_id, Int.toNat_natCast]
  cases q : ls a.toNat with
  | none => rw [q] at h1 h; rw [if_pos h1]; exact h
  | some xs =>
    rw [q] at h1 h
    have h2 : M 72 a.toNat = 1 := h1.1
    simp (disch := omega) only [zck_t, if_pos, if_neg, if_true, if_false, zwr_id, Int.toNat_natCast]
    exact h
theorem e_nu_row (ha : 0 ≤ a ∧ a < 3) (h : Q ((75 + 2 * a.toNat : Nat) : Int) (SH, M, L)) : zEv (d + 2) m_nu_row [zR 70, zI a] (SH, M, L) Q := by
  refine b_nu_row (g_nu_row_0 (e_lt_noList (g_nu_row_4 ?_)))
  simp (disch := omega) only [zck_t, if_pos, if_neg, if_true, if_false, zwr_id, Int.toNat_natCast, zom_t (zNum (show a.toNat < 3 by omega)).2.1]
  exact h
theorem e_nu_begin {n : Int} (h0 : nC M ls) (ha : 0 ≤ a ∧ a < 3) (hn : 0 ≤ n ∧ n ≤ 40) (h : ∀ M', nC M' (lsSet ls a.toNat (List.replicate n.toNat 0)) → cFr [72, 75, 76, 77, 78, 79, 80] M M' → Q 0 (SH, M', L)) : zEv (d + 3) m_nu_begin [zR 70, zI a, zI n] (SH, M, L) Q := by
  obtain ⟨z1, z2, z3⟩ := zNum (show a.toNat < 3 by omega)
  refine b_nu_begin (g_nu_begin_0 (e_lt_noList (g_nu_begin_4 ?_)))
  simp (disch := omega) only [zck_t, if_pos, if_neg, if_true, if_false, zwr_id, Int.toNat_natCast, zom_t z2, zkq_t z1.1]
  refine e_ro_clear z1 (fun M1 g1 f1 => g_nu_begin_24 ?_)
  simp (disch := omega) only [zck_t, if_pos, if_neg, if_true, if_false, zwr_id, Int.toNat_natCast, zom_t z2, zkq_t z1.1]
  refine e_ro_addTimes z1 g1 hn.1 (by rw [show 75 + 2 * a.toNat + 1 = 76 + 2 * a.toNat by omega, z3]; simp; omega) (fun M2 g2 f2 => g_nu_begin_35 (h M2 (fun l hl => ?_) (fun k hk => ?_)))
  · have f3 := f1.tr f2
    unfold lsSet
    by_cases q : l = a.toNat
    · rw [if_pos q]
      subst q
      refine ⟨?_, by simpa using g2⟩
      rw [f3 72 (by omega) (by omega), zmu_s]
    · rw [if_neg q]
      have h1 := h0 l hl
      cases q2 : ls l with
      | none =>
        rw [q2] at h1
        show M2 72 l = 0
        rw [f3 72 (by omega) (by omega), zmu_j q]; exact h1
      | some xs =>
        rw [q2] at h1
        refine ⟨by rw [f3 72 (by omega) (by omega), zmu_j q]; exact h1.1, ?_⟩
        refine f3.is ⟨?_, fun j hj => ?_, h1.2.2.2⟩ (by omega) (by omega) (by omega)
        · rw [zmu_k (by omega)]; exact h1.2.1
        · rw [zmu_k (by omega)]; exact h1.2.2.1 j hj
  · simp at hk
    rw [(f1.tr f2) k (by omega) (by omega), zmu_kf (by omega)]
/-! the shelf -/
/-- what a shelf lies in -/
def cS (s : Nat) : List Nat := [s, s + 4, s + 5, s + 6, s + 7, s + 8, s + 9, s + 10, s + 11, s + 12, s + 13]
theorem cS_of (s : Nat) : ∀ k, k < 5 → s + 4 + 2 * k ∈ cS s ∧ s + 4 + 2 * k + 1 ∈ cS s := by
  intro k hk
  unfold cS
  simp
  omega
theorem sS.fr {S : List Nat} {M M' : zM} (h : sS M s ws) (hf : cFr S M M') (hS : ∀ k ∈ cS s, k ∉ S) : sS M' s ws := by
  obtain ⟨h1, h2, h3⟩ := h
  refine ⟨by rw [hf s (hS s (by unfold cS; simp))]; exact h1, h2, fun i hi => ⟨?_, (h3 i hi).2⟩⟩
  have e := cS_of s i (by omega)
  exact hf.row (h3 i hi).1 (hS _ e.1) (hS _ e.2)
theorem e_sh_isFull (hz : zShf s) (h0 : sS M s ws) (h : Q (if ws.length < 5 then 0 else 1) (SH, M, L)) : zEv (d + 1) m_sh_isFull [zR s] (SH, M, L) Q := by
  refine b_sh_isFull (g_sh_isFull_0 hz ?_)
  rw [h0.1]
  by_cases g : ws.length < 5
  · rw [if_pos g] at h; rw [if_pos (by omega)]; exact h
  · rw [if_neg g] at h; rw [if_neg (by omega)]; exact h
theorem getD_snoc {α : Type} {ws : List α} {u e : α} {i : Nat} : (ws ++ [u]).getD i e = if i < ws.length then ws.getD i e else if i = ws.length then u else e := by
  rw [List.getD_eq_getElem?_getD, List.getD_eq_getElem?_getD, List.getElem?_append]
  by_cases g : i < ws.length
  · rw [if_pos g, if_pos g]
  · rw [if_neg g, if_neg g]
    by_cases g2 : i = ws.length
    · rw [if_pos g2, g2, Nat.sub_self]; rfl
    · rw [if_neg g2, List.getElem?_eq_none (by simp; omega)]; rfl
theorem e_sh_place (hz : zShf s) (hr : zRow r) (h0 : sS M s ws) (hw : ws.length < 5) (hu : rIs M r u) (hW : isW u) (hl : u.length ≤ 14) (hrs : r ∉ cS s) (h : ∀ M', sS M' s (ws ++ [u]) → cFr (cS s) M M' → Q (ws.length : Int) (SH, M', L)) : zEv (d + 4) m_sh_place [zR s, zR r] (SH, M, L) Q := by
  obtain ⟨z1, z2, z3⟩ := hz.2.2.2.2.2.2 ws.length (by omega)
  refine b_sh_place (g_sh_place_0 hz hr (e_sh_isFull hz h0 (g_sh_place_4 hz hr ?_)))
  have zl := hz.2.2.2.2.2.1
  rw [h0.1]
  simp (disch := omega) only [zck_t, if_pos, if_neg, if_true, if_false, zwr_id, Int.toNat_natCast, zom_t z1, zkq_t z2.1]
  have e0 := cS_of s ws.length hw
  refine e_ro_copy z2 hr (fun q => hrs (q ▸ e0.1)) hu (by rw [show s + 4 + 2 * ws.length + 1 = s + 5 + 2 * ws.length by omega, z3]; omega) (fun M1 g1 f1 => g_sh_place_23 hz hr ?_)
  have e1 : M1 s = M s := f1 s (by omega) (by omega)
  rw [zmu_s, e1, h0.1, zwr_id (x := (ws.length : Int) + 1) (by omega) (by omega), zwr_id (by omega) (by omega), show ((ws.length : Int) + 1 - 1) = ws.length by omega]
  refine h _ ⟨by rw [zmu_s]; simp, by simp; omega, fun i hi => ?_⟩ (fun k hk => ?_)
  · rw [getD_snoc]
    by_cases q : i < ws.length
    · rw [if_pos q]
      obtain ⟨q1, q2⟩ := h0.2.2 i q
      refine ⟨?_, q2⟩
      have := f1.is q1 (by omega) (by omega) (by omega)
      exact ⟨by rw [zmu_k (by omega)]; exact this.1, fun j hj => by rw [zmu_k (by omega)]; exact this.2.1 j hj, this.2.2⟩
    · simp at hi
      have q2 : i = ws.length := by omega
      rw [if_neg q, if_pos q2, q2]
      exact ⟨⟨by rw [zmu_k (by omega)]; exact g1.1, fun j hj => by rw [zmu_k (by omega)]; exact g1.2.1 j hj, g1.2.2⟩, hW⟩
  · rw [zmu_kf (fun q => hk (by rw [q]; unfold cS; simp))]
    exact f1 k (fun q => hk (q ▸ e0.1)) (fun q => hk (q ▸ e0.2))
theorem e_sh_removeLast (hz : zShf s) (h0 : sS M s ws) (hw : 0 < ws.length) (h : ∀ M', sS M' s ws.dropLast → cFr (cS s) M M' → Q 0 (SH, M', L)) : zEv (d + 1) m_sh_removeLast [zR s] (SH, M, L) Q := by
  have h5 := h0.2.1
  refine b_sh_removeLast (g_sh_removeLast_0 hz ?_)
  rw [h0.1]
  simp (disch := omega) only [zck_t, if_pos, if_neg, if_true, if_false, zwr_id, Int.toNat_natCast]
  refine h _ ⟨by rw [zmu_s, List.length_dropLast]; omega, by rw [List.length_dropLast]; omega, fun i hi => ?_⟩ (fun k hk => zmu_kf (fun q => hk (by rw [q]; unfold cS; simp)))
  rw [List.length_dropLast] at hi
  obtain ⟨q1, q2⟩ := h0.2.2 i (by omega)
  have e : ws.dropLast.getD i [] = ws.getD i [] := by
    rw [List.getD_eq_getElem?_getD, List.getD_eq_getElem?_getD, List.dropLast_eq_take, List.getElem?_take_of_lt (by omega)]
  rw [e]
  exact ⟨⟨by rw [zmu_k (by omega)]; exact q1.1, fun j hj => by rw [zmu_k (by omega)]; exact q1.2.1 j hj, q1.2.2⟩, q2⟩
theorem sh_copy_loop (hz : zShf s) (hz2 : zShf t) (hst : s + 13 < t ∨ t + 13 < s) (h0 : sS M t ws) (h : ∀ M', sS M' s ws → cFr (cS s) M M' → Q 0 (SH, M', L)) :
    ∀ (n k : Nat) (Mk : zM), k + n = ws.length → Mk s 2 = (ws.length : Int) → (∀ i, i < k → rIs Mk (s + 4 + 2 * i) (ws.getD i [])) → cFr (cS s) M Mk → zEx (d + 4) m_sh_copy zb0 Q 10 ([zR s, zR t, zI (k : Int)], [], SH, Mk, L) := by
  have h5 := h0.2.1
  have zl := hz.2.2.2.2.2.1
  have zl2 := hz2.2.2.2.2.2.1
  intro n
  induction n with
  | zero =>
    intro k Mk hk h1 h2 hf
    refine g_sh_copy_10 hz hz2 ?_
    rw [h1]
    simp (disch := omega) only [zck_t, if_pos, if_neg, if_true, if_false, zwr_id, Int.toNat_natCast]
    exact h Mk ⟨h1, h5, fun i hi => ⟨h2 i (by omega), (h0.2.2 i hi).2⟩⟩ hf
  | succ n ih =>
    intro k Mk hk h1 h2 hf
    obtain ⟨z1, z2, z3⟩ := hz.2.2.2.2.2.2 k (by omega)
    obtain ⟨y1, y2, y3⟩ := hz2.2.2.2.2.2.2 k (by omega)
    have hlen := sS_len hz2 h0 (show k < ws.length by omega)
    have e0 := cS_of s k (by omega)
    refine g_sh_copy_10 hz hz2 ?_
    rw [h1]
    simp (disch := omega) only [zck_t, if_pos, if_neg, if_true, if_false, zwr_id, Int.toNat_natCast, zom_t z1, zom_t y1, zkq_t z2.1]
    have hu : rIs Mk (t + 4 + 2 * k) (ws.getD k []) := hf.row (h0.2.2 k (by omega)).1 (by unfold cS; simp; omega) (by unfold cS; simp; omega)
    refine e_ro_copy z2 y2 (by omega) hu (by rw [show s + 4 + 2 * k + 1 = s + 5 + 2 * k by omega, z3]; omega) (fun M1 g1 f1 => g_sh_copy_33 hz hz2 ?_)
    rw [zwr_id (by omega) (by omega), show ((k : Int) + 1) = ((k + 1 : Nat) : Int) by omega]
    refine ih (k + 1) M1 (by omega) (by rw [f1 s (by omega) (by omega)]; exact h1) (fun i hi => ?_) (hf.tr (f1.c e0.1 e0.2))
    by_cases q : i = k
    · rw [q]; exact g1
    · exact f1.is (h2 i (by omega)) (by omega) (by omega) (by omega)
theorem e_sh_copy (hz : zShf s) (hz2 : zShf t) (hst : s + 13 < t ∨ t + 13 < s) (h0 : sS M t ws) (h : ∀ M', sS M' s ws → cFr (cS s) M M' → Q 0 (SH, M', L)) : zEv (d + 4) m_sh_copy [zR s, zR t] (SH, M, L) Q := by
  refine b_sh_copy (g_sh_copy_0 hz hz2 ?_)
  rw [h0.1]
  have hf : cFr (cS s) M (zmu M s 2 (ws.length : Int)) := fun k hk => zmu_kf (fun q => hk (by rw [q]; unfold cS; simp))
  exact sh_copy_loop hz hz2 hst h0 h ws.length 0 _ (by omega) zmu_s (fun i hi => by omega) hf
theorem take_sum {ws : List (List Int)} {k : Nat} (h : k < ws.length) : ((ws.take (k + 1)).map List.length).sum = ((ws.take k).map List.length).sum + (ws.getD k []).length := by
  have e2 : ws.take (k + 1) = ws.take k ++ [ws.getD k []] := by
    rw [List.take_succ, List.getElem?_eq_getElem h, List.getD_eq_getElem?_getD, List.getElem?_eq_getElem h]; rfl
  rw [e2, List.map_append, List.sum_append_nat]
  simp only [List.map_cons, List.map_nil, List.sum_cons, List.sum_nil, Nat.add_zero]
theorem sh_all_loop (hz : zShf s) (h0 : sS M s ws) (h : Q ((ws.map List.length).sum : Int) (SH, M, L)) :
    ∀ (n k : Nat), k + n = ws.length → zEx (d + 2) m_sh_allLetters zb0 Q 4 ([zR s, zI (((ws.take k).map List.length).sum : Int), zI (k : Int)], [], SH, M, L) := by
  have h5 := h0.2.1
  have zl := hz.2.2.2.2.2.1
  have hb : ∀ k, k ≤ ws.length → ((ws.take k).map List.length).sum ≤ 14 * k := by
    intro k
    induction k with
    | zero => intro _; simp
    | succ k ih =>
      intro hk
      have := ih (by omega)
      have hl := sS_len hz h0 (show k < ws.length by omega)
      rw [take_sum (by omega)]
      omega
  intro n
  induction n with
  | zero =>
    intro k hk
    refine g_sh_allLetters_4 hz ?_
    rw [h0.1]
    simp (disch := omega) only [zck_t, if_pos, if_neg, if_true, if_false, zwr_id, Int.toNat_natCast]
    rw [List.take_of_length_le (by omega)]
    exact h
  | succ n ih =>
    intro k hk
    obtain ⟨z1, z2, z3⟩ := hz.2.2.2.2.2.2 k (by omega)
    have hlen := sS_len hz h0 (show k < ws.length by omega)
    have := hb k (by omega)
    refine g_sh_allLetters_4 hz ?_
    rw [h0.1]
    simp (disch := omega) only [zck_t, if_pos, if_neg, if_true, if_false, zwr_id, Int.toNat_natCast, zom_t z1, zkq_t z2.1]
    refine e_ro_size z2 (h0.2.2 k (by omega)).1 (g_sh_allLetters_22 hz ?_)
    have e := ih (k + 1) (by omega)
    rw [zwr_id (by omega) (by omega), zwr_id (by omega) (by omega), show ((k : Int) + 1) = ((k + 1 : Nat) : Int) by omega]
    have e2 : ((ws.take (k + 1)).map List.length).sum = ((ws.take k).map List.length).sum + (ws.getD k []).length := by
      exact take_sum (by omega)
    rw [e2] at e
    rw [show ((((ws.take k).map List.length).sum : Nat) : Int) + ((ws.getD k []).length : Int) = ((((ws.take k).map List.length).sum + (ws.getD k []).length : Nat) : Int) by omega]
    exact e
theorem e_sh_allLetters (hz : zShf s) (h0 : sS M s ws) (h : Q ((ws.map List.length).sum : Int) (SH, M, L)) : zEv (d + 2) m_sh_allLetters [zR s] (SH, M, L) Q :=
  b_sh_allLetters (g_sh_allLetters_0 hz (sh_all_loop hz h0 h ws.length 0 (by omega)))
end KP
