/-! the two new objects -/
def qfs : List (Nat × Nat × Int) := [(2, 0, 0), (2, 1, 0), (2, 2, 0), (2, 3, 0), (2, 4, 0), (2, 5, 0), (3, 0, 0), (3, 1, 1), (3, 2, 2), (3, 3, 3), (3, 4, 4), (3, 5, 5), (7, 2, 0), (64, 1, 0), (21, 1, 0), (21, 2, 0), (0, 6, 0), (72, 0, 0), (72, 1, 0), (72, 2, 0), (81, 0, 0), (81, 1, 0), (81, 2, 0), (81, 3, 0), (81, 4, 0), (81, 5, 0), (97, 8, 0),
  (113, 0, 0), (113, 1, 0), (113, 2, 0), (113, 3, 0), (113, 4, 0), (113, 5, 0), (114, 0, 0), (114, 1, 1), (114, 2, 2), (114, 3, 3), (114, 4, 4), (114, 5, 5), (112, 2, 0), (112, 7, 0), (112, 8, 0), (112, 10, 0), (124, 0, -9), (124, 1, -9), (124, 2, -9), (117, 1, 0), (117, 2, 0), (117, 3, 0), (117, 4, 0), (117, 5, 0), (117, 6, 0)]
def qe2 : zSh → zM → Bool := fun σ M => decide (σ = SH) && qfs.all (fun q => decide (M q.1 q.2.1 = q.2.2))
def SH1 : zSh := SH.take 112
noncomputable def qe1 : zSh → zM → Bool := fun σ M => decide (σ = SH1) && qX 1 m_mo_init [zR 112] (SH1 ++ [(10, 0, List.replicate 36 none)]) (zmz M 112) qe2
def qM0 : zM := zmz (fun _ _ => 0) 0
theorem q_run : qX 3 m_lt_init [zR 0] [(9, 0, List.replicate 16 none)] qM0 qe1 = true := by decide +kernel
/-- the state of both -/
def zBoth (w : zW) : Prop := ∃ (M L : zM) (P R : Nat → Nat) (ws : List (List Int)) (tx : List Int) (hs : List zLw) (kp : zKp) (ls : Nat → Option (List Int)) (rf : Nat → Int), w = (SH, M, L) ∧ iC M P R ws tx hs kp ls rf ∧ iM M P R ws tx hs kp ls rf
theorem lOk_0 : lOk (fun _ => 0) id := ⟨fun _ _ => (by decide : (0 : Nat) < 64), fun a b _ _ => by rw [Nat.zero_testBit, Nat.zero_testBit], fun a _ => Nat.zero_testBit a, fun _ h => h, fun _ _ _ _ h => h⟩
theorem qe2_ok {σ : zSh} {M L : zM} (h : qe2 σ M = true) : zBoth (σ, M, L) := by
  obtain ⟨h1, h2⟩ := qand h
  have e : σ = SH := of_decide_eq_true h1
  subst e
  have g : ∀ q ∈ qfs, M q.1 q.2.1 = q.2.2 := fun q hq => of_decide_eq_true (List.all_eq_true.mp h2 q hq)
  refine ⟨M, L, fun _ => 0, id, [], [], [], none, fun _ => none, fun _ => 0, rfl, ⟨?_, lOk_0, ⟨g (7, 2, 0) (by decide), by decide, fun i hi => absurd hi (Nat.not_lt_zero i)⟩, ⟨⟨g (64, 1, 0) (by decide), fun i hi => absurd hi (Nat.not_lt_zero i), by decide⟩, fun c hc => absurd hc List.not_mem_nil⟩, ⟨0, by decide, g (21, 2, 0) (by decide), g (21, 1, 0) (by decide), by decide, fun i hi => absurd hi (Nat.not_lt_zero i)⟩, g (0, 6, 0) (by decide), ?_, ?_, Or.inl (g (97, 8, 0) (by decide))⟩, ⟨?_, lOk_0, ⟨g (112, 2, 0) (by decide), by decide, fun i hi => absurd hi (Nat.not_lt_zero i)⟩, ⟨g (112, 7, 0) (by decide), by decide, fun c hc => absurd hc List.not_mem_nil, fun i hi => absurd hi (Nat.not_lt_zero i)⟩, ⟨g (112, 8, 0) (by decide), by decide, fun i hi => absurd hi (Nat.not_lt_zero i)⟩, g (112, 10, 0) (by decide), ?_, ?_⟩⟩
  · intro a ha
    rcases (show a = 0 ∨ a = 1 ∨ a = 2 ∨ a = 3 ∨ a = 4 ∨ a = 5 by omega) with rfl | rfl | rfl | rfl | rfl | rfl
    · exact ⟨g (2, 0, 0) (by decide), g (3, 0, 0) (by decide)⟩
    · exact ⟨g (2, 1, 0) (by decide), g (3, 1, 1) (by decide)⟩
    · exact ⟨g (2, 2, 0) (by decide), g (3, 2, 2) (by decide)⟩
    · exact ⟨g (2, 3, 0) (by decide), g (3, 3, 3) (by decide)⟩
    · exact ⟨g (2, 4, 0) (by decide), g (3, 4, 4) (by decide)⟩
    · exact ⟨g (2, 5, 0) (by decide), g (3, 5, 5) (by decide)⟩
  · intro a ha
    rcases (show a = 0 ∨ a = 1 ∨ a = 2 by omega) with rfl | rfl | rfl
    · exact g (72, 0, 0) (by decide)
    · exact g (72, 1, 0) (by decide)
    · exact g (72, 2, 0) (by decide)
  · intro a ha
    rcases (show a = 0 ∨ a = 1 ∨ a = 2 ∨ a = 3 ∨ a = 4 ∨ a = 5 by omega) with rfl | rfl | rfl | rfl | rfl | rfl
    · exact g (81, 0, 0) (by decide)
    · exact g (81, 1, 0) (by decide)
    · exact g (81, 2, 0) (by decide)
    · exact g (81, 3, 0) (by decide)
    · exact g (81, 4, 0) (by decide)
    · exact g (81, 5, 0) (by decide)
  · intro a ha
    rcases (show a = 0 ∨ a = 1 ∨ a = 2 ∨ a = 3 ∨ a = 4 ∨ a = 5 by omega) with rfl | rfl | rfl | rfl | rfl | rfl
    · exact ⟨g (113, 0, 0) (by decide), g (114, 0, 0) (by decide)⟩
    · exact ⟨g (113, 1, 0) (by decide), g (114, 1, 1) (by decide)⟩
    · exact ⟨g (113, 2, 0) (by decide), g (114, 2, 2) (by decide)⟩
    · exact ⟨g (113, 3, 0) (by decide), g (114, 3, 3) (by decide)⟩
    · exact ⟨g (113, 4, 0) (by decide), g (114, 4, 4) (by decide)⟩
    · exact ⟨g (113, 5, 0) (by decide), g (114, 5, 5) (by decide)⟩
  · intro a ha
    rcases (show a = 0 ∨ a = 1 ∨ a = 2 by omega) with rfl | rfl | rfl
    · exact g (124, 0, -9) (by decide)
    · exact g (124, 1, -9) (by decide)
    · exact g (124, 2, -9) (by decide)
  · intro a ha
    rcases (show a = 0 ∨ a = 1 ∨ a = 2 ∨ a = 3 ∨ a = 4 ∨ a = 5 by omega) with rfl | rfl | rfl | rfl | rfl | rfl
    · exact g (117, 1, 0) (by decide)
    · exact g (117, 2, 0) (by decide)
    · exact g (117, 3, 0) (by decide)
    · exact g (117, 4, 0) (by decide)
    · exact g (117, 5, 0) (by decide)
    · exact g (117, 6, 0) (by decide)
/-- the constructors -/
theorem n_lt (L : zM) : zEv 3 m_lt_init [zR 0] ([(9, 0, List.replicate 16 none)], qM0, L) (fun _ w => ∃ M L, w = (SH1, M, L) ∧ ∀ L, zEv 1 m_mo_init [zR 112] (SH1 ++ [(10, 0, List.replicate 36 none)], zmz M 112, L) (fun _ w => zBoth w)) := by
  refine qX_ok 3 _ _ _ _ _ _ _ (fun σ M L h => ?_) q_run
  obtain ⟨h1, h2⟩ := qand h
  have e : σ = SH1 := of_decide_eq_true h1
  subst e
  exact ⟨M, L, rfl, fun L => qX_ok 1 _ _ _ _ _ _ _ (fun σ M L h => qe2_ok h) h2⟩
