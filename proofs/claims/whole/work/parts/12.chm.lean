/-! calls and ends of methods; what a method does, by the small machine -/
def zrt (rk : Nat) (ret : Option FieldType) : Bool := match rk, ret with
  | 0, none => true
  | 1, some .int => true
  | 2, some .long => true
  | 3, some (.object _) => true
  | 4, some .boolean => true
  | _, _ => false
/-- descriptors and how many parameters they have -/
def zds : List (String × Nat) := [("()I", 0), ("()LLettersThatPass$Row;", 0), ("()V", 0), ("()Z", 0), ("(I)I", 1), ("(I)J", 1), ("(I)LLettersThatPass$Row;", 1), ("(I)V", 1), ("(I)Z", 1), ("(II)I", 2), ("(II)J", 2), ("(II)V", 2), ("(II)Z", 2), ("(III)I", 3), ("(III)Z", 3), ("(IIII)I", 4), ("(IILLettersThatPass$Laws;)J", 3), ("(ILLettersThatPass$Row;)V", 2), ("(I[II)V", 3), ("(JJ)J", 2), ("(LLettersThatPass$Laws;)V", 1), ("(LLettersThatPass$Laws;)Z", 1), ("(LLettersThatPass$Laws;LLettersThatPass$Bench;)V", 2), ("(LLettersThatPass$Laws;ZII)V", 4), ("(LLettersThatPass$Row;)I", 1), ("(LLettersThatPass$Row;)V", 1), ("(LLettersThatPass$Row;)Z", 1), ("(LLettersThatPass$Row;I)I", 2), ("(LLettersThatPass$Row;I)V", 2), ("(LLettersThatPass$Row;II)I", 3), ("(LLettersThatPass$Row;II)V", 3), ("(LLettersThatPass$Row;ILLettersThatPass$Row;)V", 3), ("(LLettersThatPass$Row;ILLettersThatPass$Row;)Z", 3), ("(LLettersThatPass$Row;IZ)I", 3), ("(LLettersThatPass$Row;LLettersThatPass$Laws;)I", 2), ("(LLettersThatPass$Row;LLettersThatPass$Laws;)J", 2), ("(LLettersThatPass$Row;LLettersThatPass$Row;)I", 2), ("(LLettersThatPass$Row;LLettersThatPass$Row;)V", 2), ("(LLettersThatPass$Row;LLettersThatPass$Row;)Z", 2), ("(LLettersThatPass$Row;LLettersThatPass$Row;LLettersThatPass$Row;)V", 3), ("(LLettersThatPass$Row;LLettersThatPass$Row;LLettersThatPass$Row;)Z", 3), ("(LLettersThatPass$Row;ZLLettersThatPass$Row;)V", 3), ("(LLettersThatPass$Shelf;)V", 1), ("(Z)I", 1), ("([II)I", 2), ("([II)Z", 2), ("([III)I", 3), ("([III)V", 3), ("([II[IZ)V", 4), ("([I[I)V", 2), ("([I[II)Z", 3)]
theorem zds_ok : ∀ q ∈ zds, (parseMethodDescriptor q.1).map (fun d => d.parameters.length) = some q.2 := List.forall_mem_cons.mpr ⟨by decide +kernel, List.forall_mem_cons.mpr ⟨by decide +kernel, List.forall_mem_cons.mpr ⟨by decide +kernel, List.forall_mem_cons.mpr ⟨by decide +kernel, List.forall_mem_cons.mpr ⟨by decide +kernel, List.forall_mem_cons.mpr ⟨by decide +kernel, List.forall_mem_cons.mpr ⟨by decide +kernel, List.forall_mem_cons.mpr ⟨by decide +kernel, List.forall_mem_cons.mpr ⟨by decide +kernel, List.forall_mem_cons.mpr ⟨by decide +kernel, List.forall_mem_cons.mpr ⟨by decide +kernel, List.forall_mem_cons.mpr ⟨by decide +kernel, List.forall_mem_cons.mpr ⟨by decide +kernel, List.forall_mem_cons.mpr ⟨by decide +kernel, List.forall_mem_cons.mpr ⟨by decide +kernel, List.forall_mem_cons.mpr ⟨by decide +kernel, List.forall_mem_cons.mpr ⟨by decide +kernel, List.forall_mem_cons.mpr ⟨by decide +kernel, List.forall_mem_cons.mpr ⟨by decide +kernel, List.forall_mem_cons.mpr ⟨by decide +kernel, List.forall_mem_cons.mpr ⟨by decide +kernel, List.forall_mem_cons.mpr ⟨by decide +kernel, List.forall_mem_cons.mpr ⟨by decide +kernel, List.forall_mem_cons.mpr ⟨by decide +kernel, List.forall_mem_cons.mpr ⟨by decide +kernel, List.forall_mem_cons.mpr ⟨by decide +kernel, List.forall_mem_cons.mpr ⟨by decide +kernel, List.forall_mem_cons.mpr ⟨by decide +kernel, List.forall_mem_cons.mpr ⟨by decide +kernel, List.forall_mem_cons.mpr ⟨by decide +kernel, List.forall_mem_cons.mpr ⟨by decide +kernel, List.forall_mem_cons.mpr ⟨by decide +kernel, List.forall_mem_cons.mpr ⟨by decide +kernel, List.forall_mem_cons.mpr ⟨by decide +kernel, List.forall_mem_cons.mpr ⟨by decide +kernel, List.forall_mem_cons.mpr ⟨by decide +kernel, List.forall_mem_cons.mpr ⟨by decide +kernel, List.forall_mem_cons.mpr ⟨by decide +kernel, List.forall_mem_cons.mpr ⟨by decide +kernel, List.forall_mem_cons.mpr ⟨by decide +kernel, List.forall_mem_cons.mpr ⟨by decide +kernel, List.forall_mem_cons.mpr ⟨by decide +kernel, List.forall_mem_cons.mpr ⟨by decide +kernel, List.forall_mem_cons.mpr ⟨by decide +kernel, List.forall_mem_cons.mpr ⟨by decide +kernel, List.forall_mem_cons.mpr ⟨by decide +kernel, List.forall_mem_cons.mpr ⟨by decide +kernel, List.forall_mem_cons.mpr ⟨by decide +kernel, List.forall_mem_cons.mpr ⟨by decide +kernel, List.forall_mem_cons.mpr ⟨by decide +kernel, List.forall_mem_cons.mpr ⟨by decide +kernel, fun _ h => absurd h List.not_mem_nil⟩⟩⟩⟩⟩⟩⟩⟩⟩⟩⟩⟩⟩⟩⟩⟩⟩⟩⟩⟩⟩⟩⟩⟩⟩⟩⟩⟩⟩⟩⟩⟩⟩⟩⟩⟩⟩⟩⟩⟩⟩⟩⟩⟩⟩⟩⟩⟩⟩⟩⟩
def zdn (dsc : String) (n : Nat) : Bool := decide ((dsc, n) ∈ zds)
def ziscode (w : Option Jvm.Cond) : Bool := match w with
  | some (.code _ _ _ _) => true
  | _ => false
theorem ziscode_e {w : Option Jvm.Cond} (h : ziscode w = true) : w = some (.code (zcy w) (zcc w) (zcm w) (zcr w)) := by
  unfold ziscode at h
  split at h
  · rfl
  · cases h
def zchm (μ : Nat) : Bool := ziscode (ztb (zrow μ 2)) && zat (zrow μ 5) (.initialized (zy μ).cls) && (match zrow μ 7 with
    | 0 => zat (zrow μ 3) (.instanceMethod (zy μ)) && (decide ((zy μ).name = "<init>") || zat (zrow μ 4) (.selects (zy μ).cls (zy μ) (zy μ))) && zdn (zy μ).desc (zrow μ 1 - 1) && decide (0 < zrow μ 1)
    | _ => zat (zrow μ 3) (.static (zy μ)) && zdn (zy μ).desc (zrow μ 1)) &&
  plainName (zy μ).cls && decide ((zy μ).cls ≠ "java/lang/invoke/MethodHandle" ∧ (zy μ).cls ≠ "java/lang/invoke/VarHandle") && decide (zmaxL μ ≤ 100) && zrt (zrk μ) (zret μ) && decide ((zy μ).name = "<init>" → zrk μ = 0)
theorem zchm_dec : (List.range zmt.length).all zchm = true := by decide +kernel
theorem zchm_all {μ : Nat} (h : μ < zmt.length) : zchm μ = true := List.all_eq_true.mp zchm_dec μ (List.mem_range.mpr h)
/-- what zchm says -/
theorem zchm_e {μ : Nat} (h : μ < zmt.length) : (Jvm.Cond.code (zy μ) (zcode μ) (zmaxL μ) (zret μ) ∈ lw_tbl ∧ goodWord (Jvm.Cond.code (zy μ) (zcode μ) (zmaxL μ) (zret μ)) = true) ∧ (Jvm.Cond.initialized (zy μ).cls ∈ lw_tbl ∧ goodWord (Jvm.Cond.initialized (zy μ).cls) = true) ∧ plainName (zy μ).cls = true ∧ ((zy μ).cls ≠ "java/lang/invoke/MethodHandle" ∧ (zy μ).cls ≠ "java/lang/invoke/VarHandle") ∧ zmaxL μ ≤ 100 ∧ zrt (zrk μ) (zret μ) = true ∧ ((zy μ).name = "<init>" → zrk μ = 0) ∧
    (zrow μ 7 = 0 → (Jvm.Cond.instanceMethod (zy μ) ∈ lw_tbl ∧ goodWord (Jvm.Cond.instanceMethod (zy μ)) = true) ∧ ((zy μ).name ≠ "<init>" → (Jvm.Cond.selects (zy μ).cls (zy μ) (zy μ) ∈ lw_tbl ∧ goodWord (Jvm.Cond.selects (zy μ).cls (zy μ) (zy μ)) = true)) ∧ (parseMethodDescriptor (zy μ).desc).map (fun d => d.parameters.length) = some (zrow μ 1 - 1) ∧ 0 < zrow μ 1) ∧
    (zrow μ 7 = 1 → (Jvm.Cond.static (zy μ) ∈ lw_tbl ∧ goodWord (Jvm.Cond.static (zy μ)) = true) ∧ (parseMethodDescriptor (zy μ).desc).map (fun d => d.parameters.length) = some (zrow μ 1)) := by
  have h1 := zchm_all h
  unfold zchm at h1
  obtain ⟨h1, a1⟩ := zat_e2 h1
  obtain ⟨h1, a2⟩ := zat_e2 h1
  obtain ⟨h1, a3⟩ := zat_e2 h1
  obtain ⟨h1, a4⟩ := zat_e2 h1
  obtain ⟨h1, a5⟩ := zat_e2 h1
  obtain ⟨h1, a6⟩ := zat_e2 h1
  obtain ⟨a7, a8⟩ := zat_e2 h1
  refine ⟨⟨ztb_in (ziscode_e a7), rfl⟩, zat_e a8, a5, of_decide_eq_true a4, of_decide_eq_true a3, a2, of_decide_eq_true a1, fun h0 => ?_, fun h0 => ?_⟩
  · rw [h0] at a6
    obtain ⟨b1, b2⟩ := zat_e2 a6
    obtain ⟨b1, b3⟩ := zat_e2 b1
    obtain ⟨b1, b4⟩ := zat_e2 b1
    refine ⟨zat_e b1, fun hn => ?_, zds_ok _ (of_decide_eq_true b3), of_decide_eq_true b2⟩
    rw [Bool.or_eq_true] at b4
    rcases b4 with b4 | b4
    · exact absurd (of_decide_eq_true b4) hn
    · exact zat_e b4
  · rw [h0] at a6
    obtain ⟨b1, b2⟩ := zat_e2 a6
    exact ⟨zat_e b1, zds_ok _ (of_decide_eq_true b2)⟩
