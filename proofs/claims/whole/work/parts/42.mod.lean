/-! the reference's calls: what stands while what stands -/
section MX
variable {d : Nat} {M M' L : zM} {Q : Int → zW → Prop} {P R : Nat → Nat} {ws : List (List Int)} {tx : List Int} {hs : List zLw} {kp : zKp} {ls : Nat → Option (List Int)} {rf : Nat → Int}
theorem mS.of (h : mS M ws) (g0 : M' 112 2 = M 112 2) (g1 : M' 115 = M 115) (g2 : M' 116 = M 116) : mS M' ws := by
  unfold mS at h ⊢
  rw [g0, g1, g2]; exact h
theorem tM.of (h : tM M tx) (g0 : M' 112 7 = M 112 7) (g1 : M' 118 = M 118) : tM M' tx := by
  unfold tM at h ⊢
  rw [g0, g1]; exact h
theorem hM.of (h : hM M hs) (g0 : M' 112 8 = M 112 8) (g1 : M' 119 = M 119) : hM M' hs := by
  unfold hM at h ⊢
  rw [g0, g1]; exact h
theorem kM.of (h : kM M kp) (g0 : M' 112 10 = M 112 10) (g1 : M' 112 11 = M 112 11) (g2 : M' 120 = M 120) (g3 : M' 121 = M 121) (g4 : M' 122 = M 122) (g5 : M' 123 = M 123) : kM M' kp := by
  cases kp with
  | none =>
    show M' 112 10 = 0
    rw [g0]; exact h
  | some k =>
    unfold kM at h ⊢
    dsimp only at h ⊢
    rw [g0, g1, g2, g3, g4, g5]; exact h
theorem nM.of (h : nM M ls) (g1 : M' 124 = M 124) (g2 : M' 125 = M 125) : nM M' ls := by
  unfold nM at h ⊢
  rw [g1, g2]; exact h
theorem fM.of (h : fM M rf) (g1 : M' 117 = M 117) : fM M' rf := by
  unfold fM at h ⊢
  rw [g1]; exact h
/-- a part changes: S the cells (from 112 on) and T the slots of 112 that do -/
theorem iM.sx {S : List Nat} {T : List Nat} {ws' : List (List Int)} (hI : iM M P R ws tx hs kp ls rf) (hf : ∀ k, k ∉ S → k ≠ 112 → M' k = M k) (ht : ∀ j, j ∉ T → M' 112 j = M 112 j) (hS : ∀ k ∈ S, k = 115 ∨ k = 116 ∨ 125 < k) (hT : ∀ j ∈ T, j = 2 ∨ 11 < j) (hw : mS M' ws') : iM M' P R ws' tx hs kp ls rf := by
  have g : ∀ k, 112 < k → k ≤ 125 → k ≠ 115 → k ≠ 116 → M' k = M k := fun k a b c e => hf k (fun q => by have := hS k q; omega) (by omega)
  have t : ∀ j, j ≤ 11 → j ≠ 2 → M' 112 j = M 112 j := fun j a b => ht j (fun q => by have := hT j q; omega)
  refine ⟨fun c hc => ?_, hI.lo, hw, hI.t.of (t 7 (by omega) (by omega)) (g 118 (by omega) (by omega) (by omega) (by omega)), hI.h.of (t 8 (by omega) (by omega)) (g 119 (by omega) (by omega) (by omega) (by omega)), hI.k.of (t 10 (by omega) (by omega)) (t 11 (by omega) (by omega)) (g 120 (by omega) (by omega) (by omega) (by omega)) (g 121 (by omega) (by omega) (by omega) (by omega)) (g 122 (by omega) (by omega) (by omega) (by omega)) (g 123 (by omega) (by omega) (by omega) (by omega)), hI.n.of (g 124 (by omega) (by omega) (by omega) (by omega)) (g 125 (by omega) (by omega) (by omega) (by omega)), hI.f.of (g 117 (by omega) (by omega) (by omega) (by omega))⟩
  rw [g (112 + 1) (by omega) (by omega) (by omega) (by omega), g (112 + 2) (by omega) (by omega) (by omega) (by omega)]; exact hI.l c hc
theorem iM.xt {S : List Nat} {T : List Nat} {tx' : List Int} (hI : iM M P R ws tx hs kp ls rf) (hf : ∀ k, k ∉ S → k ≠ 112 → M' k = M k) (ht : ∀ j, j ∉ T → M' 112 j = M 112 j) (hS : ∀ k ∈ S, k = 118 ∨ 125 < k) (hT : ∀ j ∈ T, j = 7 ∨ 11 < j) (hw : tM M' tx') : iM M' P R ws tx' hs kp ls rf := by
  have g : ∀ k, 112 < k → k ≤ 125 → k ≠ 118 → M' k = M k := fun k a b c => hf k (fun q => by have := hS k q; omega) (by omega)
  have t : ∀ j, j ≤ 11 → j ≠ 7 → M' 112 j = M 112 j := fun j a b => ht j (fun q => by have := hT j q; omega)
  refine ⟨fun c hc => ?_, hI.lo, hI.s.of (t 2 (by omega) (by omega)) (g 115 (by omega) (by omega) (by omega)) (g 116 (by omega) (by omega) (by omega)), hw, hI.h.of (t 8 (by omega) (by omega)) (g 119 (by omega) (by omega) (by omega)), hI.k.of (t 10 (by omega) (by omega)) (t 11 (by omega) (by omega)) (g 120 (by omega) (by omega) (by omega)) (g 121 (by omega) (by omega) (by omega)) (g 122 (by omega) (by omega) (by omega)) (g 123 (by omega) (by omega) (by omega)), hI.n.of (g 124 (by omega) (by omega) (by omega)) (g 125 (by omega) (by omega) (by omega)), hI.f.of (g 117 (by omega) (by omega) (by omega))⟩
  rw [g (112 + 1) (by omega) (by omega) (by omega), g (112 + 2) (by omega) (by omega) (by omega)]; exact hI.l c hc
theorem iM.nx {S : List Nat} {ls' : Nat → Option (List Int)} (hI : iM M P R ws tx hs kp ls rf) (hf : cFr S M M') (hS : ∀ k ∈ S, k = 124 ∨ k = 125 ∨ 125 < k) (hw : nM M' ls') : iM M' P R ws tx hs kp ls' rf := by
  have g : ∀ k, k ≤ 125 → k ≠ 124 → k ≠ 125 → M' k = M k := fun k b c e => hf k (fun q => by have := hS k q; omega)
  have t : M' 112 = M 112 := g 112 (by omega) (by omega) (by omega)
  refine ⟨fun c hc => ?_, hI.lo, hI.s.of (by rw [t]) (g 115 (by omega) (by omega) (by omega)) (g 116 (by omega) (by omega) (by omega)), hI.t.of (by rw [t]) (g 118 (by omega) (by omega) (by omega)), hI.h.of (by rw [t]) (g 119 (by omega) (by omega) (by omega)), hI.k.of (by rw [t]) (by rw [t]) (g 120 (by omega) (by omega) (by omega)) (g 121 (by omega) (by omega) (by omega)) (g 122 (by omega) (by omega) (by omega)) (g 123 (by omega) (by omega) (by omega)), hw, hI.f.of (g 117 (by omega) (by omega) (by omega))⟩
  rw [g (112 + 1) (by omega) (by omega) (by omega), g (112 + 2) (by omega) (by omega) (by omega)]; exact hI.l c hc
theorem iM.lx {S : List Nat} {T : List Nat} {P' R' : Nat → Nat} {hs' : List zLw} (hI : iM M P R ws tx hs kp ls rf) (hf : ∀ k, k ∉ S → k ≠ 112 → M' k = M k) (ht : ∀ j, j ∉ T → M' 112 j = M 112 j) (hS : ∀ k ∈ S, k = 113 ∨ k = 114 ∨ k = 119 ∨ 125 < k) (hT : ∀ j ∈ T, j = 8 ∨ 11 < j) (h1 : lIs M' 112 P' R') (h2 : lOk P' R') (h3 : hM M' hs') : iM M' P' R' ws tx hs' kp ls rf := by
  have g : ∀ k, 114 < k → k ≤ 125 → k ≠ 119 → M' k = M k := fun k a b c => hf k (fun q => by have := hS k q; omega) (by omega)
  have t : ∀ j, j ≤ 11 → j ≠ 8 → M' 112 j = M 112 j := fun j a b => ht j (fun q => by have := hT j q; omega)
  exact ⟨h1, h2, hI.s.of (t 2 (by omega) (by omega)) (g 115 (by omega) (by omega) (by omega)) (g 116 (by omega) (by omega) (by omega)), hI.t.of (t 7 (by omega) (by omega)) (g 118 (by omega) (by omega) (by omega)), h3, hI.k.of (t 10 (by omega) (by omega)) (t 11 (by omega) (by omega)) (g 120 (by omega) (by omega) (by omega)) (g 121 (by omega) (by omega) (by omega)) (g 122 (by omega) (by omega) (by omega)) (g 123 (by omega) (by omega) (by omega)), hI.n.of (g 124 (by omega) (by omega) (by omega)) (g 125 (by omega) (by omega) (by omega)), hI.f.of (g 117 (by omega) (by omega) (by omega))⟩
/-! loading, coming -/
theorem e_mo_load {w : Int} {r : Nat} (hI : iM M P R ws tx hs kp ls rf) (g : wd ws w) (hr : r = 128 ∨ r = 129) (h : ∀ M', aIs M' r (gw ws w) → iM M' P R ws tx hs kp ls rf → cFr [r] M M' → Q ((gw ws w).length : Int) (SH, M', L)) : zEv (d + 1) m_mo_loads [zR 112, zR r, zI 0, zI w] (SH, M, L) Q := by
  obtain ⟨w1, w2, w3, w4, w5⟩ := hI.w g
  have zk : zkd SH r = 20 ∧ zln SH r = 28 := by
    rcases hr with q | q
    · rw [q]; exact ⟨zk_128, zl_128⟩
    · rw [q]; exact ⟨zk_129, zl_129⟩
  have ew : zI w = zI ((w.toNat : Nat) : Int) := by rw [Int.toNat_of_nonneg g.1]
  have w2' : (ws.getD w.toNat []).length ≤ 14 := w2
  rw [ew]
  refine e_mo_loads (s := 0) (i := w.toNat) zk.1 (by omega) (by omega) hI.s (by omega) (by rw [zk.2]; omega) (by rw [zk.2]; omega) (fun M1 m1 _ f1 => ?_)
  have := h M1 ⟨fun j hj => by have := m1 j hj; rw [Nat.zero_add] at this; exact this, by rw [zk.2]; omega⟩ (hI.fr f1 (by intro k hk; simp at hk; omega)) f1
  rw [show ((0 : Nat) : Int) + ((ws.getD w.toNat []).length : Int) = ((gw ws w).length : Int) by unfold gw; omega]
  exact this
theorem e_mo_load2 {w : Int} {r : Nat} {t : List Int} (hI : iM M P R ws tx hs kp ls rf) (g : wd ws w) (hr : r = 128 ∨ r = 129) (ht : aIs M r t) (h14 : t.length ≤ 14) (h : ∀ M', aIs M' r (t ++ gw ws w) → iM M' P R ws tx hs kp ls rf → cFr [r] M M' → Q (((t ++ gw ws w).length : Nat) : Int) (SH, M', L)) : zEv (d + 1) m_mo_loads [zR 112, zR r, zI (t.length : Int), zI w] (SH, M, L) Q := by
  obtain ⟨w1, w2, w3, w4, w5⟩ := hI.w g
  have zk : zkd SH r = 20 ∧ zln SH r = 28 := by
    rcases hr with q | q
    · rw [q]; exact ⟨zk_128, zl_128⟩
    · rw [q]; exact ⟨zk_129, zl_129⟩
  have ew : zI w = zI ((w.toNat : Nat) : Int) := by rw [Int.toNat_of_nonneg g.1]
  have w2' : (ws.getD w.toNat []).length ≤ 14 := w2
  rw [ew]
  refine e_mo_loads (s := t.length) (i := w.toNat) zk.1 (by omega) (by omega) hI.s (by omega) (by rw [zk.2]; omega) (by rw [zk.2]; omega) (fun M1 m1 m2 f1 => ?_)
  have := h M1 ⟨fun j hj => ?_, by rw [zk.2, List.length_append]; omega⟩ (hI.fr f1 (by intro k hk; simp at hk; omega)) f1
  · rw [List.length_append] at this
    exact this
  · rw [List.length_append] at hj
    by_cases q : j < t.length
    · rw [m2 j q, ht.1 j q, getD_app_l q]
    · have e1 := m1 (j - t.length) (by show _ < (gw ws w).length; omega)
      rw [show t.length + (j - t.length) = j by omega] at e1
      rw [e1]
      have e2 := getD_app_r (u := t) (v := gw ws w) (j := j - t.length)
      rw [show t.length + (j - t.length) = j by omega] at e2
      rw [e2]; rfl
theorem mo_comes_loop {r : Nat} {u : List Int} (hr : zkd SH r = 20) (hr1 : r ≠ 112) (hr2 : r ≠ 115) (hr3 : r ≠ 116) (hI : iM M P R ws tx hs kp ls rf) (h5 : ws.length < 5) (hu : aIs M r u) (hw : isW u) (h14 : u.length ≤ 14) (hz : zln SH r ≤ 20000) (h : ∀ M', iM M' P R (ws ++ [u]) tx hs kp ls rf → aC M M' → Q (ws.length : Int) (SH, M', L)) :
    ∀ (n k : Nat) (Mk : zM), k + n = u.length → (∀ j, j < k → Mk 116 (14 * ws.length + j) = u.getD j 0) → (∀ j, j < 14 * ws.length → Mk 116 j = M 116 j) → cFr [116] M Mk → zEx (d + 1) m_mo_comes zb0 Q 2 ([zR 112, zR r, zI (u.length : Int), zI (k : Int)], [], SH, Mk, L) := by
  have hs := hI.s
  have hul := hu.2
  intro n
  induction n with
  | zero =>
    intro k Mk hk h1 h2 hf
    refine g_mo_comes_2 hr ?_
    have e0 : Mk 112 = M 112 := hf 112 (by decide)
    have e1 : ∀ (j : Nat) (v : Int), zmu Mk 115 j v 112 2 = (ws.length : Int) := fun j v => by rw [zmu_k (by decide), e0, hs.1]
    have e2 : Mk 112 2 = (ws.length : Int) := by rw [e0, hs.1]
    simp only [e1, e2, zmu_s]
    simp (disch := omega) only [zck_t, if_pos, if_neg, if_true, if_false, zwr_id, Int.toNat_natCast]
    rw [show ((ws.length : Int) + 1 - 1) = (ws.length : Int) by omega]
    refine h _ (hI.sx (S := [115, 116]) (T := [2]) (fun k hk h112 => ?_) (fun j hj => ?_) (by decide) (by decide) ⟨?_, ?_, fun i hi => ?_⟩) (fun k hk => ?_)
    · simp at hk
      rw [zmu_kf h112, zmu_kf hk.1]; exact hf k (by simpa using hk.2)
    · rw [zmu_j (by simpa using hj), zmu_k (by decide), e0]
    · rw [zmu_s]; simp
    · simp; omega
    · have e115 : Mk 115 = M 115 := hf 115 (by decide)
      rw [zmu_kf (a := 115) (k := 112) (by decide), zmu_kf (a := 116) (k := 112) (by decide), zmu_kf (a := 116) (k := 115) (by decide), getD_snoc]
      by_cases q : i < ws.length
      · rw [if_pos q]
        obtain ⟨a1, a2, a3, a4⟩ := hs.2.2 i q
        refine ⟨by rw [zmu_j (by omega), e115]; exact a1, a2, a3, fun j hj => ?_⟩
        rw [h2 _ (by omega)]; exact a4 j hj
      · simp at hi
        have q2 : i = ws.length := by omega
        rw [if_neg q, if_pos q2, q2, zmu_s]
        exact ⟨rfl, h14, hw, fun j hj => h1 j (by omega)⟩
    · rw [zmu_kf (by omega), zmu_kf (by omega)]
      exact hf k (by simp; omega)
  | succ n ih =>
    intro k Mk hk h1 h2 hf
    refine g_mo_comes_2 hr ?_
    have e0 : Mk 112 = M 112 := hf 112 (by decide)
    rw [e0, hs.1]
    simp (disch := omega) only [zck_t, if_pos, if_neg, if_true, if_false, zwr_id, Int.toNat_natCast]
    rw [show (14 * (ws.length : Int) + (k : Int)) = ((14 * ws.length + k : Nat) : Int) by omega, Int.toNat_natCast, show ((k : Int) + 1) = ((k + 1 : Nat) : Int) by omega]
    refine ih (k + 1) _ (by omega) (fun j hj => ?_) (fun j hj => ?_) (fun a ha => ?_)
    · by_cases q : j = k
      · rw [q, zmu_s, hf r (by simpa using hr3), hu.1 k (by omega)]
      · rw [zmu_j (by omega)]; exact h1 j (by omega)
    · rw [zmu_j (by omega)]; exact h2 j hj
    · rw [zmu_kf (by simpa using ha)]; exact hf a ha
theorem e_mo_comes {r : Nat} {u : List Int} (hr : zkd SH r = 20) (hr1 : r ≠ 112) (hr2 : r ≠ 115) (hr3 : r ≠ 116) (hI : iM M P R ws tx hs kp ls rf) (h5 : ws.length < 5) (hu : aIs M r u) (hw : isW u) (h14 : u.length ≤ 14) (hz : zln SH r ≤ 20000) (h : ∀ M', iM M' P R (ws ++ [u]) tx hs kp ls rf → aC M M' → Q (ws.length : Int) (SH, M', L)) : zEv (d + 1) m_mo_comes [zR 112, zR r, zI (u.length : Int)] (SH, M, L) Q :=
  b_mo_comes (g_mo_comes_0 hr (mo_comes_loop hr hr1 hr2 hr3 hI h5 hu hw h14 hz h u.length 0 M (by omega) (fun j hj => by omega) (fun _ _ => rfl) cFr.rf))
end MX
