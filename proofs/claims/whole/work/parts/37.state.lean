/-! the state: what the class keeps, what the reference keeps -/
/-- a move -/
def mv (P R : Nat → Nat) (x y : List Int) : Prop := ∃ a x', tk (psL P) a x = some x' ∧ y = lw P R false (x' ++ [a])
/-- what n moves lead to -/
def rch (P R : Nat → Nat) (u : List Int) : Nat → List Int → Prop
  | 0, y => y = u
  | n + 1, y => ∃ x, rch P R u n x ∧ mv P R x y
def dst (P R : Nat → Nat) (u y : List Int) (n : Nat) : Prop := rch P R u n y ∧ ∀ m, m < n → ¬ rch P R u m y
/-- all words to which moves lead from the word u, each with the fewest moves -/
def bfR (P R : Nat → Nat) (u : List Int) (bf : List (List Int × Nat)) : Prop := (∀ p ∈ bf, dst P R u p.1 p.2) ∧ (∀ n y, rch P R u n y → ∃ m, (y, m) ∈ bf) ∧ (bf.map (fun p => p.1)).Nodup
/-- a word as a number -/
def cod (w : List Int) : Nat := w.foldl (fun c a => c * 8 + a.toNat) 1
abbrev zbf0 : List Int × Nat := ([], 0)
def tuC (M : zM) : Prop := M 97 8 = 0 ∨ ∃ (P R : Nat → Nat) (u : List Int) (bf : List (List Int × Nat)) (so : List Int), lOk P R ∧ lIs M 98 P R ∧ isW u ∧ u.length ≤ 7 ∧ bfR P R u bf ∧ 0 < bf.length ∧ bf.length ≤ 64 ∧ M 97 8 = (bf.length : Int) ∧ M 97 9 = (u.length : Int) ∧ (bf.getD 0 zbf0).1 = u ∧ (∀ i, i < bf.length → M 105 i = (cod (bf.getD i zbf0).1 : Int) ∧ M 106 i = ((bf.getD i zbf0).2 : Int)) ∧ so.Perm (bf.map (fun p => (cod p.1 : Int))) ∧ so.Pairwise (fun a b => a ≤ b) ∧ ∀ i, i < bf.length → M 107 i = so.getD i 0
/-- the letters that came -/
def tX (M : zM) (tx : List Int) : Prop := rIs M 64 tx ∧ ∀ c ∈ tx, 0 ≤ c ∧ c ≤ 255
def tM (M : zM) (tx : List Int) : Prop := M 112 7 = (tx.length : Int) ∧ tx.length ≤ 72 ∧ (∀ c ∈ tx, 0 ≤ c ∧ c ≤ 255) ∧ ∀ j, j < tx.length → M 118 j = tx.getD j 0
abbrev zKp : Type := Option ((Nat → Nat) × (Nat → Nat) × List (List Int))
def kC (M : zM) (kp : zKp) : Prop := match kp with
  | none => M 0 6 = 0
  | some k => M 0 6 = 1 ∧ lIs M 47 k.1 k.2.1 ∧ lOk k.1 k.2.1 ∧ sS M 50 k.2.2
def kM (M : zM) (kp : zKp) : Prop := match kp with
  | none => M 112 10 = 0
  | some k => M 112 10 = 1 ∧ lOk k.1 k.2.1 ∧ (∀ a, a < 6 → M 120 a = (k.1 a : Int) ∧ M 121 a = (k.2.1 a : Int)) ∧ M 112 11 = (k.2.2.length : Int) ∧ k.2.2.length ≤ 5 ∧ ∀ i, i < k.2.2.length → M 122 i = ((k.2.2.getD i []).length : Int) ∧ (k.2.2.getD i []).length ≤ 14 ∧ isW (k.2.2.getD i []) ∧ ∀ j, j < (k.2.2.getD i []).length → M 123 (14 * i + j) = (k.2.2.getD i []).getD j 0
def fC (M : zM) (rf : Nat → Int) : Prop := ∀ k, k < 6 → M 81 k = rf k
def fM (M : zM) (rf : Nat → Int) : Prop := ∀ k, k < 6 → M 117 (k + 1) = rf k
/-- a refusal more -/
def upr (rf : Nat → Int) (k : Nat) : Nat → Int := fun j => if j + 1 = k then zwr (rf j + 1) else rf j
theorem upr_0 (rf : Nat → Int) : upr rf 0 = rf := by
  funext j
  unfold upr
  rw [if_neg (by omega)]
def iC (M : zM) (P R : Nat → Nat) (ws : List (List Int)) (tx : List Int) (hs : List zLw) (kp : zKp) (ls : Nat → Option (List Int)) (rf : Nat → Int) : Prop := lIs M 1 P R ∧ lOk P R ∧ sS M 7 ws ∧ tX M tx ∧ hC M hs ∧ kC M kp ∧ nC M ls ∧ fC M rf ∧ tuC M
def iM (M : zM) (P R : Nat → Nat) (ws : List (List Int)) (tx : List Int) (hs : List zLw) (kp : zKp) (ls : Nat → Option (List Int)) (rf : Nat → Int) : Prop := lIs M 112 P R ∧ lOk P R ∧ mS M ws ∧ tM M tx ∧ hM M hs ∧ kM M kp ∧ nM M ls ∧ fM M rf
/-- nothing of the reference, nothing of the class has changed -/
def aM (M M' : zM) : Prop := ∀ k, 112 ≤ k → M' k = M k
def aC (M M' : zM) : Prop := ∀ k, k < 112 → M' k = M k
section ST
variable {d : Nat} {M M' L : zM} {Q : Int → zW → Prop} {P R : Nat → Nat} {ws : List (List Int)} {tx : List Int} {hs : List zLw} {kp : zKp} {ls : Nat → Option (List Int)} {rf : Nat → Int}
theorem iC.l (h : iC M P R ws tx hs kp ls rf) : lIs M 1 P R := h.1
theorem iC.lo (h : iC M P R ws tx hs kp ls rf) : lOk P R := h.2.1
theorem iC.s (h : iC M P R ws tx hs kp ls rf) : sS M 7 ws := h.2.2.1
theorem iC.t (h : iC M P R ws tx hs kp ls rf) : tX M tx := h.2.2.2.1
theorem iC.h (h : iC M P R ws tx hs kp ls rf) : hC M hs := h.2.2.2.2.1
theorem iC.k (h : iC M P R ws tx hs kp ls rf) : kC M kp := h.2.2.2.2.2.1
theorem iC.n (h : iC M P R ws tx hs kp ls rf) : nC M ls := h.2.2.2.2.2.2.1
theorem iC.f (h : iC M P R ws tx hs kp ls rf) : fC M rf := h.2.2.2.2.2.2.2.1
theorem iC.c (h : iC M P R ws tx hs kp ls rf) : tuC M := h.2.2.2.2.2.2.2.2
theorem iM.l (h : iM M P R ws tx hs kp ls rf) : lIs M 112 P R := h.1
theorem iM.lo (h : iM M P R ws tx hs kp ls rf) : lOk P R := h.2.1
theorem iM.s (h : iM M P R ws tx hs kp ls rf) : mS M ws := h.2.2.1
theorem iM.t (h : iM M P R ws tx hs kp ls rf) : tM M tx := h.2.2.2.1
theorem iM.h (h : iM M P R ws tx hs kp ls rf) : hM M hs := h.2.2.2.2.1
theorem iM.k (h : iM M P R ws tx hs kp ls rf) : kM M kp := h.2.2.2.2.2.1
theorem iM.n (h : iM M P R ws tx hs kp ls rf) : nM M ls := h.2.2.2.2.2.2.1
theorem iM.f (h : iM M P R ws tx hs kp ls rf) : fM M rf := h.2.2.2.2.2.2.2
/-! each part stands while its cells stand -/
theorem tuC.of (h : tuC M) (g : ∀ k, k ∈ [97, 99, 100, 105, 106, 107] → M' k = M k) : tuC M' := by
  unfold tuC lIs at h ⊢
  rw [g 97 (by decide), g 105 (by decide), g 106 (by decide), g 107 (by decide), g (98 + 1) (by decide), g (98 + 2) (by decide)]
  exact h
theorem tX.of (h : tX M tx) (g : ∀ k, k ∈ [64, 65] → M' k = M k) : tX M' tx := by
  unfold tX rIs at h ⊢
  rw [g 64 (by decide), g (64 + 1) (by decide)]
  exact h
theorem sS.of {s : Nat} (h : sS M s ws) (g : ∀ k, k ∈ cS s → M' k = M k) : sS M' s ws := by
  obtain ⟨h1, h2, h3⟩ := h
  refine ⟨by rw [g s (by unfold cS; simp)]; exact h1, h2, fun i hi => ⟨?_, (h3 i hi).2⟩⟩
  have e := cS_of s i (by omega)
  have q := (h3 i hi).1
  exact ⟨by rw [g _ e.1]; exact q.1, fun j hj => by rw [g _ e.2]; exact q.2.1 j hj, q.2.2⟩
theorem hC.of (h : hC M hs) (g : ∀ k, k ∈ cH → M' k = M k) : hC M' hs := by
  obtain ⟨nx, h1, h2, h3, h4, h5⟩ := h
  refine ⟨nx, h1, by rw [g 21 (by decide)]; exact h2, by rw [g 21 (by decide)]; exact h3, h4, fun i hi => ⟨?_, (h5 i hi).2⟩⟩
  have e := cH_of ((nx + 7 - i) % 8) (by omega)
  intro c hc
  rw [g _ e.1, g _ e.2]
  exact (h5 i hi).1 c hc
def cK : List Nat := [0, 48, 49, 50, 54, 55, 56, 57, 58, 59, 60, 61, 62, 63]
theorem kC.of (h : kC M kp) (g : ∀ k, k ∈ cK → M' k = M k) : kC M' kp := by
  cases kp with
  | none =>
    show M' 0 6 = 0
    rw [g 0 (by decide)]; exact h
  | some k =>
    obtain ⟨h1, h2, h3, h4⟩ := h
    refine ⟨by rw [g 0 (by decide)]; exact h1, fun c hc => ?_, h3, h4.of (fun k hk => g k (by revert k; decide))⟩
    rw [g (47 + 1) (by decide), g (47 + 2) (by decide)]
    exact h2 c hc
theorem nC.of (h : nC M ls) (g : ∀ k, k ∈ [72, 75, 76, 77, 78, 79, 80] → M' k = M k) : nC M' ls := by
  intro l hl
  have h1 := h l hl
  have e : ∀ l, l < 3 → 75 + 2 * l ∈ [72, 75, 76, 77, 78, 79, 80] ∧ 75 + 2 * l + 1 ∈ [72, 75, 76, 77, 78, 79, 80] := by decide
  cases q : ls l with
  | none =>
    rw [q] at h1
    show M' 72 l = 0
    rw [g 72 (by decide)]; exact h1
  | some xs =>
    rw [q] at h1
    exact ⟨by rw [g 72 (by decide)]; exact h1.1, by rw [g _ (e l hl).1]; exact h1.2.1, fun j hj => by rw [g _ (e l hl).2]; exact h1.2.2.1 j hj, h1.2.2.2⟩
/-- the cells of the class that keep something -/
def cKeep : List Nat := [0, 2, 3, 7, 11, 12, 13, 14, 15, 16, 17, 18, 19, 20, 21, 24, 25, 27, 28, 30, 31, 33, 34, 36, 37, 39, 40, 42, 43, 45, 46, 48, 49, 50, 54, 55, 56, 57, 58, 59, 60, 61, 62, 63, 64, 65, 72, 75, 76, 77, 78, 79, 80, 81, 97, 99, 100, 105, 106, 107]
theorem iC.of (h : iC M P R ws tx hs kp ls rf) (g : ∀ k, k ∈ cKeep → M' k = M k) : iC M' P R ws tx hs kp ls rf := by
  refine ⟨fun c hc => ?_, h.lo, h.s.of (fun k hk => g k ?_), h.t.of (fun k hk => g k ?_), h.h.of (fun k hk => g k ?_), h.k.of (fun k hk => g k ?_), h.n.of (fun k hk => g k ?_), fun k hk => ?_, h.c.of (fun k hk => g k ?_)⟩
  · rw [g (1 + 1) (by decide), g (1 + 2) (by decide)]; exact h.l c hc
  · revert k; decide
  · revert k; decide
  · revert k; decide
  · revert k; decide
  · revert k; decide
  · rw [g 81 (by decide)]; exact h.f k hk
  · revert k; decide
theorem iC.fr {S : List Nat} (h : iC M P R ws tx hs kp ls rf) (hf : cFr S M M') (hS : ∀ k ∈ cKeep, k ∉ S) : iC M' P R ws tx hs kp ls rf := h.of (fun k hk => hf k (hS k hk))
theorem cKeep_lt : ∀ k ∈ cKeep, k < 112 := by decide
/-- the reference's calls leave the class as it is -/
theorem iC.ac (h : iC M P R ws tx hs kp ls rf) (hf : aC M M') : iC M' P R ws tx hs kp ls rf := h.of (fun k hk => hf k (cKeep_lt k hk))
theorem iM.of (h : iM M P R ws tx hs kp ls rf) (g : ∀ k, 112 ≤ k → k ≤ 125 → M' k = M k) : iM M' P R ws tx hs kp ls rf := by
  unfold iM lIs mS tM hM fM at h ⊢
  rw [g 112 (by decide) (by decide), g (112 + 1) (by decide) (by decide), g (112 + 2) (by decide) (by decide), g 115 (by decide) (by decide), g 116 (by decide) (by decide), g 117 (by decide) (by decide), g 118 (by decide) (by decide), g 119 (by decide) (by decide)]
  obtain ⟨h1, h2, h3, h4, h5, h6, h7, h8⟩ := h
  refine ⟨h1, h2, h3, h4, h5, ?_, ?_, h8⟩
  · cases kp with
    | none =>
      show M' 112 10 = 0
      rw [g 112 (by decide) (by decide)]; exact h6
    | some k =>
      unfold kM at h6 ⊢
      dsimp only at h6 ⊢
      rw [g 112 (by decide) (by decide), g 120 (by decide) (by decide), g 121 (by decide) (by decide), g 122 (by decide) (by decide), g 123 (by decide) (by decide)]
      exact h6
  · unfold nM at h7 ⊢
    rw [g 124 (by decide) (by decide), g 125 (by decide) (by decide)]
    exact h7
theorem iM.fr {S : List Nat} (h : iM M P R ws tx hs kp ls rf) (hf : cFr S M M') (hS : ∀ k ∈ S, k < 112 ∨ 125 < k) : iM M' P R ws tx hs kp ls rf := h.of (fun k h1 h2 => hf k (fun q => by have := hS k q; omega))
theorem iM.am (h : iM M P R ws tx hs kp ls rf) (hf : aM M M') : iM M' P R ws tx hs kp ls rf := h.of (fun k h1 _ => hf k h1)
theorem cFr.aM {S : List Nat} (hf : cFr S M M') (hS : ∀ k ∈ S, k < 112) : aM M M' := fun k hk => hf k (fun q => by have := hS k q; omega)
theorem cFr.aC {S : List Nat} (hf : cFr S M M') (hS : ∀ k ∈ S, 112 ≤ k) : aC M M' := fun k hk => hf k (fun q => by have := hS k q; omega)
theorem aM.r0 : aM M M := fun _ _ => rfl
theorem aC.r0 : aC M M := fun _ _ => rfl
theorem aM.tr {M'' : zM} (h : aM M M') (h' : aM M' M'') : aM M M'' := fun k hk => (h' k hk).trans (h k hk)
theorem aC.tr {M'' : zM} (h : aC M M') (h' : aC M' M'') : aC M M'' := fun k hk => (h' k hk).trans (h k hk)
/-! refusals -/
theorem e_lt_no {k : Nat} (hI : iC M P R ws tx hs kp ls rf) (hk : 1 ≤ k ∧ k < 7) (h : ∀ M', iC M' P R ws tx hs kp ls (upr rf k) → aM M M' → Q (-(k : Int)) (SH, M', L)) : zEv (d + 1) m_lt_refuse [zR 0, zI (-(k : Int))] (SH, M, L) Q := by
  refine e_lt_refuse hk (h _ ?_ (fun c hc => zmu_kf (by omega)))
  have hf : cFr [81] M (zmu M 81 (k - 1) (zwr (M 81 (k - 1) + 1))) := fun c hc => zmu_kf (by simpa using hc)
  obtain ⟨h1, h2, h3, h4, h5, h6, h7, h8, h9⟩ := hI
  refine ⟨hf.law h1 (by decide) (by decide), h2, h3.fr hf (by decide), h4.of (fun k hk => hf k (by revert k; decide)), h5.fr hf (by decide), h6.of (fun k hk => hf k (by revert k; decide)), h7.of (fun k hk => hf k (by revert k; decide)), fun j hj => ?_, h9.of (fun k hk => hf k (by revert k; decide))⟩
  unfold upr
  by_cases q : j + 1 = k
  · rw [if_pos q, show k - 1 = j by omega, zmu_s, h8 j hj]
  · rw [if_neg q, zmu_j (by omega)]; exact h8 j hj
theorem e_lt_noFar {k : Nat} (hI : iC M P R ws tx hs kp ls rf) (hk : 1 ≤ k ∧ k < 7) (h : ∀ M', iC M' P R ws tx hs kp ls (upr rf k) → aM M M' → Q (4000000000000000000 + (k : Int)) (SH, M', L)) : zEv (d + 2) m_lt_refuseFar [zR 0, zI (-(k : Int))] (SH, M, L) Q := by
  refine b_lt_refuseFar (g_lt_refuseFar_0 (e_lt_no hI hk (fun M' g1 g2 => g_lt_refuseFar_8 ?_)))
  simp (disch := omega) only [zck_t, if_pos, if_neg, if_true, if_false, zwr_id, Int.toNat_natCast, zwl_id, Int.sub_neg]
  exact h M' g1 g2
theorem iM.no {k : Nat} (hI : iM M P R ws tx hs kp ls rf) (hk : 1 ≤ k ∧ k < 7) : iM (zmu M 117 k (zwr (M 117 k + 1))) P R ws tx hs kp ls (upr rf k) := by
  have hf : ∀ c, c ≠ 117 → zmu M 117 k (zwr (M 117 k + 1)) c = M c := fun c hc => zmu_kf hc
  obtain ⟨h1, h2, h3, h4, h5, h6, h7, h8⟩ := hI
  unfold lIs mS tM hM nM at *
  refine ⟨?_, h2, ?_, ?_, ?_, ?_, ?_, fun j hj => ?_⟩
  · unfold lIs; rw [hf (112 + 1) (by decide), hf (112 + 2) (by decide)]; exact h1
  · unfold mS; rw [hf 112 (by decide), hf 115 (by decide), hf 116 (by decide)]; exact h3
  · unfold tM; rw [hf 112 (by decide), hf 118 (by decide)]; exact h4
  · unfold hM; rw [hf 112 (by decide), hf 119 (by decide)]; exact h5
  · cases kp with
    | none =>
      show zmu M 117 k (zwr (M 117 k + 1)) 112 10 = 0
      rw [hf 112 (by decide)]; exact h6
    | some k =>
      unfold kM at h6 ⊢
      dsimp only at h6 ⊢
      rw [hf 112 (by decide), hf 120 (by decide), hf 121 (by decide), hf 122 (by decide), hf 123 (by decide)]
      exact h6
  · unfold nM; rw [hf 124 (by decide), hf 125 (by decide)]; exact h7
  · unfold upr
    by_cases q : j + 1 = k
    · rw [if_pos q, ← q, zmu_s, h8 j hj]
    · rw [if_neg q, zmu_j (by omega)]; exact h8 j hj
theorem e_mo_noI {k : Nat} (hI : iM M P R ws tx hs kp ls rf) (hk : 1 ≤ k ∧ k < 7) (h : ∀ M', iM M' P R ws tx hs kp ls (upr rf k) → aC M M' → Q (-(k : Int)) (SH, M', L)) : zEv (d + 1) m_mo_no [zR 112, zI (-(k : Int))] (SH, M, L) Q :=
  e_mo_no hk.2 (h _ (hI.no hk) (fun c hc => zmu_kf (by omega)))
theorem e_mo_noLI {k : Nat} (hI : iM M P R ws tx hs kp ls rf) (hk : 1 ≤ k ∧ k < 7) (h : ∀ M', iM M' P R ws tx hs kp ls (upr rf k) → aC M M' → Q (4000000000000000000 + (k : Int)) (SH, M', L)) : zEv (d + 1) m_mo_noLong [zR 112, zI (-(k : Int))] (SH, M, L) Q :=
  e_mo_noLong hk.2 (h _ (hI.no hk) (fun c hc => zmu_kf (by omega)))
end ST
