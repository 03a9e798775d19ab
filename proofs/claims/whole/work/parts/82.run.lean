/-! what the kernel's machine says, the small machine does -/
section QC
variable {b : zB} {C : qC} {C' : zCT} {Q : zSh → zM → Bool} {Q' : Int → zW → Prop} {μ : Nat}
set_option maxHeartbeats 2000000 in
theorem qB_ok {J : Nat → qK} {J' : Nat → zMS → Prop} (hC : qCR C C') (hJ : ∀ pc, qR (J pc) (J' pc)) (hQ : ∀ σ M L, Q σ M = true → Q' 0 (σ, M, L)) : ∀ (is : List zIns) (pc : Nat), qR (qB b C J Q is pc) (fun S => zbr b C' J' Q' 0 is pc S)
  | [], pc => hJ pc
  | i :: is, pc => by
    have ih := fun pc => qB_ok hC hJ hQ is pc
    obtain ⟨ins, r⟩ := i
    cases ins
    case iconst n => exact qpu_ok (ih _)
    case bipush n => exact qpu_ok (ih _)
    case sipush n => exact qpu_ok (ih _)
    case iload_n n => exact qldI_ok (ih _)
    case aload_n n => exact qldR_ok (ih _)
    case istore_n n => exact qstI_ok (ih _)
    case iinc n d => exact qinc_ok (ih _)
    case dup => exact qdup_ok (ih _)
    case getfield n => exact qgf_ok (ih _)
    case putfield n => exact qpf_ok (ih _)
    case iastore => exact qias_ok (ih _)
    case aastore => exact qaas_ok (ih _)
    case new n => exact qnew_ok (ih _)
    case newarray n => exact qnwa_ok (ih _)
    case anewarray n => exact qnwa_ok (ih _)
    case goto o => exact hJ _
    case if_icmp c o =>
      intro ls st σ M L h
      rcases st with _ | ⟨y | y | y | y, _ | ⟨x | x | x | x, st⟩⟩
      case cons.inl.cons.inl => exact qif_ok (fun q => hJ _ _ _ _ _ _ q) (fun q => ih _ _ _ _ _ _ q) h
      all_goals exact absurd h Bool.false_ne_true
    case return_ =>
      intro ls st σ M L h
      obtain ⟨e, g⟩ := qend_ok (L := L) hQ h
      subst e
      exact g
    case invokestatic n =>
      intro ls st σ M L h
      have h : (match r.getD 2 0 with
        | 6 => qmm zmax (qB b C J Q is (pc + 3))
        | _ => fun _ _ _ _ => false) ls st σ M = true := h
      show (match r.getD 2 0 with
        | 6 => zmm zmax (ls, st, σ, M, L) (fun S => zbr b C' J' Q' 0 is (pc + 3) S)
        | 7 => zmm zmin (ls, st, σ, M, L) (fun S => zbr b C' J' Q' 0 is (pc + 3) S)
        | _ => zcal b C' (r.getD 0 0) (r.getD 2 0) (r.getD 3 0) (r.getD 4 0) (r.getD 5 0) (ls, st, σ, M, L) (fun S => zbr b C' J' Q' 0 is (pc + 3) S))
      by_cases e : r.getD 2 0 = 6
      · rw [e] at h ⊢
        exact qmm_ok (ih _) _ _ _ _ _ h
      · have e2 : (match r.getD 2 0 with
          | 6 => qmm zmax (qB b C J Q is (pc + 3))
          | _ => fun _ _ _ _ => false) = (fun _ _ _ _ => false) := by
          split
          · next q => exact absurd q e
          · rfl
        rw [e2] at h
        cases h
    case invokespecial n =>
      intro ls st σ M L h
      have h : (match r.getD 2 0 with
        | 5 => qobj (qB b C J Q is (pc + 3))
        | _ => qcal b C (r.getD 0 0) (r.getD 2 0) (r.getD 3 0) (r.getD 4 0) (qB b C J Q is (pc + 3))) ls st σ M = true := h
      show (match r.getD 2 0 with
        | 5 => zobj (ls, st, σ, M, L) (fun S => zbr b C' J' Q' 0 is (pc + 3) S)
        | _ => zcal b C' (r.getD 0 0) (r.getD 2 0) (r.getD 3 0) (r.getD 4 0) (r.getD 5 0) (ls, st, σ, M, L) (fun S => zbr b C' J' Q' 0 is (pc + 3) S))
      by_cases e : r.getD 2 0 = 5
      · rw [e] at h ⊢
        exact qobj_ok (ih _) _ _ _ _ _ h
      · have e2 : (match r.getD 2 0 with
          | 5 => qobj (qB b C J Q is (pc + 3))
          | _ => qcal b C (r.getD 0 0) (r.getD 2 0) (r.getD 3 0) (r.getD 4 0) (qB b C J Q is (pc + 3))) = qcal b C (r.getD 0 0) (r.getD 2 0) (r.getD 3 0) (r.getD 4 0) (qB b C J Q is (pc + 3)) := by
          split
          · next q => exact absurd q e
          · rfl
        rw [e2] at h
        split
        · next q => exact absurd q e
        · exact qcal_ok hC (ih _) _ _ _ _ _ h
    all_goals exact fun ls st σ M L h => absurd h Bool.false_ne_true
theorem qJ_ok {E : Nat → zMS → Prop} (hC : qCR C C') (hQ : ∀ σ M L, Q σ M = true → Q' 0 (σ, M, L)) : ∀ (n pc : Nat), qR (qJ b C Q μ n pc) (fun S => zJ b C' E Q' 0 μ [] n pc S)
  | 0, pc => fun ls st σ M L h => absurd h Bool.false_ne_true
  | n + 1, pc => by
    intro ls st σ M L h
    unfold qJ at h
    unfold zJ
    rw [if_neg (by simp)]
    exact qB_ok hC (fun pc => qJ_ok hC hQ n pc) hQ _ _ _ _ _ _ _ h
theorem qX_ok : ∀ n : Nat, qCR (qX n) (zEv n)
  | 0 => fun μ a σ M L Q Q' hQ h => absurd h Bool.false_ne_true
  | n + 1 => by
    intro μ a σ M L Q Q' hQ h
    unfold qX at h
    obtain ⟨h1, h2⟩ := qand h
    obtain ⟨h3, h4⟩ := qand h1
    obtain ⟨h4, h5⟩ := qand h4
    have hμ : μ < 225 := of_decide_eq_true h3
    have hrk : zrk μ = 0 := Nat.eq_of_beq_eq_true h5
    refine zEv_of _ hμ rfl (Nat.le_of_ble_eq_true h4) (zEx_run [] 60 hμ ?_)
    rw [hrk]
    exact qB_ok (qX_ok n) (fun pc => qJ_ok (qX_ok n) hQ 60 pc) hQ _ _ _ _ _ _ L h2
end QC
