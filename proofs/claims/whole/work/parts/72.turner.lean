/-! the class's search: the whole -/
section CG
variable {P R P' R' : Nat → Nat} {u v w x y : List Int} {a b : Int} {last : Bool} {bf : List (List Int × Nat)}
theorem psL_c (h : lEq P' R' P R) (ha : 0 ≤ a ∧ a < 6) : psL P' a b = psL P a b := by
  unfold psL
  rw [(h a.toNat (by omega)).1]
theorem ltS_c (h : lEq P' R' P R) (ha : 0 ≤ a ∧ a < 6) (hb : 0 ≤ b ∧ b < 6) : ltS R' last a b = ltS R last a b := by
  unfold ltS ltL
  rw [(h a.toNat (by omega)).2, (h b.toNat (by omega)).2]
theorem tk_c (h : lEq P' R' P R) (ha : 0 ≤ a ∧ a < 6) : ∀ u, tk (psL P') a u = tk (psL P) a u
  | [] => rfl
  | c :: u => by rw [tk_cons, tk_cons, psL_c h ha, tk_c h ha u]
theorem tk_W (hw : isW u) (h : tk (psL P) a u = some v) : 0 ≤ a ∧ a < 6 := hw a ((tk_mem h a).mpr (Or.inl rfl))
theorem lEq.sy (h : lEq P' R' P R) : lEq P R P' R' := fun a ha => ⟨(h a ha).1.symm, (h a ha).2.symm⟩
theorem tk_c2 (h : lEq P' R' P R) (hw : isW u) (k : tk (psL P') a u = some v) : tk (psL P) a u = some v := by
  rw [← tk_c h (tk_W hw k)]; exact k
theorem isLw_c (h : lEq P' R' P R) : ∀ {w u : List Int}, isW u → isLw (psL P') (fun a b => ltS R' last a b = true) w u → isLw (psL P) (fun a b => ltS R last a b = true) w u
  | [], u, _, k => k
  | a :: w, u, hu, ⟨u', k1, k2, k3⟩ => by
    refine ⟨u', tk_c2 h hu k1, fun b u'' hb hne => ?_, isLw_c h (isW_tk hu k1) k3⟩
    have := k2 b u'' (tk_c2 h.sy hu hb) hne
    have this : ltS R' last a b = true := this
    show ltS R last a b = true
    rw [← ltS_c h (tk_W hu k1) (tk_W hu hb)]
    exact this
theorem lw_c (h : lEq P' R' P R) (hw : isW u) : lw P' R' last u = lw P R last u := lw_one (isLw_c h hw (lw_ok P' R' last u))
theorem mv_c (h : lEq P' R' P R) (hw : isW x) (k : mv P' R' x y) : mv P R x y := by
  obtain ⟨a, x', h1, h2⟩ := k
  refine ⟨a, x', tk_c2 h hw h1, ?_⟩
  rw [h2, lw_c h]
  intro b hb
  refine hw b ((tk_mem h1 b).mpr ?_)
  rcases List.mem_append.mp hb with g | g
  · exact Or.inr g
  · exact Or.inl (by simpa using g)
theorem rch_c (h : lEq P' R' P R) (hw : isW u) : ∀ {n : Nat} {y : List Int}, rch P' R' u n y → rch P R u n y
  | 0, y, k => k
  | n + 1, y, ⟨x, hx, hm⟩ => ⟨x, rch_c h hw hx, mv_c h (rch_W hw hx).1 hm⟩
theorem bfR_c (h : lEq P' R' P R) (hw : isW u) (k : bfR P' R' u bf) : bfR P R u bf := by
  refine ⟨fun p hp => ?_, fun n y hr => k.2.1 n y (rch_c h.sy hw hr), k.2.2⟩
  have := k.1 p hp
  exact ⟨rch_c h hw this.1, fun m hm hr => this.2 m hm (rch_c h.sy hw hr)⟩
end CG
section TX
variable {d : Nat} {M M' L : zM} {Q : Int → zW → Prop} {P R : Nat → Nat} {ws : List (List Int)} {tx : List Int} {hs : List zLw} {kp : zKp} {ls : Nat → Option (List Int)} {rf : Nat → Int} {u w : List Int} {r k : Nat} {bf : List (List Int × Nat)}
/-- the search is kept -/
def tuX (M : zM) (P R : Nat → Nat) (u : List Int) (bf : List (List Int × Nat)) : Prop := ∃ so : List Int, lOk P R ∧ lIs M 98 P R ∧ isW u ∧ u.length ≤ 7 ∧ bfR P R u bf ∧ 0 < bf.length ∧ tB M bf ∧ M 97 9 = (u.length : Int) ∧ bw bf 0 = u ∧ so.Perm (bf.map cdi) ∧ so.Pairwise (fun a b => a ≤ b) ∧ ∀ i, i < bf.length → M 107 i = so.getD i 0
theorem tuX.c (h : tuX M P R u bf) : tuC M := by
  obtain ⟨so, a1, a2, a3, a4, a5, a6, a7, a8, a9, a10, a11, a12⟩ := h
  exact Or.inr ⟨P, R, u, bf, so, a1, a2, a3, a4, a5, a6, a7.2.1, a7.1, a8, a9, a7.2.2, a10, a11, a12⟩
theorem tuC.x (h : tuC M) : M 97 8 = 0 ∨ ∃ P R u bf, tuX M P R u bf := by
  rcases h with h | ⟨P, R, u, bf, so, a1, a2, a3, a4, a5, a6, a7, a8, a9, a10, a11, a12, a13, a14⟩
  · exact Or.inl h
  · exact Or.inr ⟨P, R, u, bf, so, a1, a2, a3, a4, a5, a6, ⟨a8, a7, a11⟩, a9, a10, a12, a13, a14⟩
theorem tuX.of (h : tuX M P R u bf) (g : ∀ k, k ∈ [97, 99, 100, 105, 106, 107] → M' k = M k) : tuX M' P R u bf := by
  obtain ⟨so, a1, a2, a3, a4, a5, a6, a7, a8, a9, a10, a11, a12⟩ := h
  refine ⟨so, a1, fun a ha => ?_, a3, a4, a5, a6, a7.of (fun k hk => g k (by simp at hk ⊢; omega)), by rw [g 97 (by decide)]; exact a8, a9, a10, a11, fun i hi => by rw [g 107 (by decide)]; exact a12 i hi⟩
  rw [g (98 + 1) (by decide), g (98 + 2) (by decide)]
  exact a2 a ha
theorem iC.cx {S : List Nat} (hI : iC M P R ws tx hs kp ls rf) (hf : cFr S M M') (hS : ∀ k ∈ cKeep, k ∉ [97, 99, 100, 105, 106, 107] → k ∉ S) (ht : tuC M') : iC M' P R ws tx hs kp ls rf := by
  have g : ∀ k, k ∈ cKeep → k ∉ [97, 99, 100, 105, 106, 107] → M' k = M k := fun k h1 h2 => hf k (hS k h1 h2)
  refine ⟨fun c hc => ?_, hI.lo, hI.s.of (fun k hk => ?_), hI.t.of (fun k hk => ?_), hI.h.of (fun k hk => ?_), hI.k.of (fun k hk => ?_), hI.n.of (fun k hk => ?_), fun k hk => ?_, ht⟩
  · rw [g (1 + 1) (by decide) (by decide), g (1 + 2) (by decide) (by decide)]; exact hI.l c hc
  · have : ∀ k ∈ cS 7, k ∈ cKeep ∧ k ∉ [97, 99, 100, 105, 106, 107] := by decide
    exact g k (this k hk).1 (this k hk).2
  · have : ∀ k ∈ [64, 65], k ∈ cKeep ∧ k ∉ [97, 99, 100, 105, 106, 107] := by decide
    exact g k (this k hk).1 (this k hk).2
  · have : ∀ k ∈ cH, k ∈ cKeep ∧ k ∉ [97, 99, 100, 105, 106, 107] := by decide
    exact g k (this k hk).1 (this k hk).2
  · have : ∀ k ∈ cK, k ∈ cKeep ∧ k ∉ [97, 99, 100, 105, 106, 107] := by decide
    exact g k (this k hk).1 (this k hk).2
  · have : ∀ k ∈ [72, 75, 76, 77, 78, 79, 80], k ∈ cKeep ∧ k ∉ [97, 99, 100, 105, 106, 107] := by decide
    exact g k (this k hk).1 (this k hk).2
  · rw [g 81 (by decide) (by decide)]; exact hI.f k hk
abbrev tuT : List Nat := [83, 84, 97, 99, 100, 101, 102, 103, 104, 105, 106, 107]
theorem tu_ex {M0 : zM} {x2 : Int} (hr : zRow r) (hl : lIs M0 1 P R) (hl8 : lIs M0 98 P R) (ho : lOk P R) (hw : isW u) (h7 : u.length ≤ 7) (hu : lw P R false u = u)
    (h : ∀ M' bf, tuX M' P R u bf → cFr tuT M0 M' → Q 0 (SH, M', L)) :
    ∀ (n k : Nat) (Mk : zM) (bf : List (List Int × Nat)), k + n = 64 → tB Mk bf → bfI P R u bf k → bfD bf → Mk 97 9 = (u.length : Int) → cFr tuS M0 Mk → zEx (d + 7) m_tu_explore zb0 Q 88 ([zR 97, zR r, zI x2, zI (k : Int)], [], SH, Mk, L) := by
  have fin : ∀ (k : Nat) (Mk : zM) (bf : List (List Int × Nat)), tB Mk bf → bfI P R u bf k → Mk 97 9 = (u.length : Int) → cFr tuS M0 Mk → bf.length ≤ k → zEv (d + 6) m_tu_sortCodes [zR 97] (SH, Mk, L) (fun _ w => zEx (d + 7) m_tu_explore zb0 Q 117 ([zR 97, zR r, zI x2, zI (k : Int)], [], w)) := by
    intro k Mk bf ht hi h9 hf hk
    refine e_tu_sortCodes ht (fun M1 so s1 s2 s3 f1 => g_tu_explore_117 hr (h M1 bf ⟨so, ho, ?_, hw, h7, bfI_e hi hk, hi.2.2.1.1, ht.of (fun k hk => f1 k (by intro z; simp at hk z; omega)), ?_, ?_, s1, s2, s3⟩ ?_))
    · exact f1.law (hf.law hl8 (by decide) (by decide)) (by decide) (by decide)
    · rw [f1 97 (by decide)]; exact h9
    · unfold bw; rw [hi.2.2.1.2]
    · exact (hf.up (by decide)).tr (f1.up (by decide))
  intro n
  induction n with
  | zero =>
    intro k Mk bf hk ht hi hD h9 hf
    have h64 := ht.2.1
    refine g_tu_explore_88 hr ?_
    rw [ht.1, if_neg (by omega)]
    exact fin k Mk bf ht hi h9 hf (by omega)
  | succ n ih =>
    intro k Mk bf hk ht hi hD h9 hf
    refine g_tu_explore_88 hr ?_
    rw [ht.1]
    by_cases g : k < bf.length
    · rw [if_pos (by omega), if_pos (by omega)]
      refine e_tu_moveAll (hf.law hl (by decide) (by decide)) ho hw h7 hu ht hi hD g h9 (fun M1 bf1 t1 i1 D1 j1 f1 => g_tu_explore_107 hr ?_)
      rw [zwr_id (by omega) (by omega), show ((k : Int) + 1) = ((k + 1 : Nat) : Int) by omega]
      exact ih (k + 1) M1 bf1 (by omega) t1 i1 D1 (j1.trans h9) (hf.tr f1)
    · rw [if_neg (by omega)]
      exact fin k Mk bf ht hi h9 hf (by omega)
theorem lw_lw (ho : lOk P R) (hw : isW w) : lw P R false (lw P R false w) = lw P R false w := (lw_eqt (eqt_lw ho hw)).symm
theorem e_tu_explore (hI : iC M P R ws tx hs kp ls rf) (hr : zRow r) (hr9 : r + 1 < 64) (hu : rIs M r w) (hw : isW w) (h7 : w.length ≤ 7)
    (h : ∀ M' bf, tuX M' P R (lw P R false w) bf → iC M' P R ws tx hs kp ls rf → cFr tuT M M' → Q 0 (SH, M', L)) : zEv (d + 7) m_tu_explore [zR 97, zR r] (SH, M, L) Q := by
  have z1 := zRow_101
  have hlw := lw_isW (P := P) (R := R) (last := false) hw
  have hll : (lw P R false w).length = w.length := lw_len
  refine b_tu_explore (g_tu_explore_0 hr (e_be_arrange (last := false) hr z1 (by omega) (by decide) hu hw hI.l hI.lo (by omega) (by rw [zl102]; omega) (fun M1 a1 f1 => g_tu_explore_13 hr ?_)))
  refine e_tu_codeOf z1 a1 hlw (by omega) (g_tu_explore_20 hr ?_)
  have I1 : iC M1 P R ws tx hs kp ls rf := hI.fr f1 (by decide)
  have fresh : zEv (d + 6) m_la_copy [zR 98, zR 1] (SH, M1, L) (fun _ w' => zEx (d + 7) m_tu_explore zb0 Q 64 ([zR 97, zR r, zI (cod (lw P R false w) : Int), zN], [], w')) := by
    refine e_la_copy zLaw_98 zLaw_1 (by decide) (by decide) (by decide) I1.l (fun M2 a2 f2 => g_tu_explore_64 hr ?_)
    have c2 : cFr [99, 100] M1 M2 := fun k hk => f2 k (fun z => hk (by rw [z]; decide)) (fun z => hk (by rw [z]; decide))
    refine e_ro_size z1 (c2.row a1 (by decide) (by decide)) (g_tu_explore_72 hr ?_)
    have ht0 : tB (zmu (zmu M2 97 9 ((lw P R false w).length : Int)) 97 8 0) [] := ⟨by rw [zmu_s]; rfl, by simp, fun i hi => by simp at hi⟩
    have c3 : cFr [97] M2 (zmu (zmu M2 97 9 ((lw P R false w).length : Int)) 97 8 0) := fun k hk => by
      have hk' : k ≠ 97 := by simpa using hk
      rw [zmu_kf hk', zmu_kf hk']
    have hA : bfA [] (lw P R false w) 0 = [(lw P R false w, 0)] := rfl
    refine e_tu_note (m := 0) ht0 (fun i hi => by simp at hi) hlw (by rw [hA]; simp) (fun M4 t4 j4 f4 => g_tu_explore_86 hr ?_)
    rw [hA] at t4
    have c4 : cFr [97, 105, 106] M2 M4 := (c3.up (by decide)).tr f4
    have l1 : lIs M4 1 P R := c4.law (c2.law I1.l (by decide) (by decide)) (by decide) (by decide)
    have l8 : lIs M4 98 P R := c4.law a2 (by decide) (by decide)
    refine tu_ex (M0 := M4) hr l1 l8 hI.lo hlw (by omega) (lw_lw hI.lo hw) (fun M5 bf5 x5 f5 => ?_) 64 0 M4 _ (by omega) t4 bfI_0 (fun i hi => by
      have : i = 0 := by simpa using hi
      rw [this]; exact Nat.le_refl _) ?_ cFr.rf
    · have c5 : cFr tuT M M5 := (((f1.up (by decide)).tr (c2.up (by decide))).tr (c4.up (by decide))).tr f5
      exact h M5 bf5 x5 (hI.cx c5 (by decide) x5.c) c5
    · rw [j4 9 (by decide), zmu_j (by decide), zmu_s]
  by_cases g1 : 0 < M1 97 8
  · rw [if_pos g1]
    by_cases g2 : M1 105 0 = (cod (lw P R false w) : Int)
    · rw [if_pos g2]
      rcases I1.c.x with z | ⟨P', R', u', bf, hX⟩
      · omega
      · have hX' := hX
        obtain ⟨so, x1, x2, x3, x4, x5, x6, x7, x8, x9, x10, x11, x12⟩ := hX'
        have e0 := (x7.2.2 0 x6).1
        rw [x9, g2] at e0
        have e1 : u' = lw P R false w := cod_inj x3 hlw (by omega)
        subst e1
        refine e_la_same zLaw_98 zLaw_1 x2 I1.l (fun q => g_tu_explore_49 hr ?_) (fun q => g_tu_explore_49 hr ?_)
        · rw [if_neg (by decide)]
          refine h M1 bf ⟨so, hI.lo, ?_, x3, x4, bfR_c q x3 x5, x6, x7, x8, x9, x10, x11, x12⟩ I1 (f1.up (by decide))
          intro a ha
          rw [← (q a ha).1, ← (q a ha).2]
          exact x2 a ha
        · rw [if_pos rfl]
          exact fresh
    · rw [if_neg g2]
      exact fresh
  · rw [if_neg g1]
    exact fresh
end TX
