/-! what is checked of the code by program, and that the small machine goes as the machine does: single instructions -/
def zat (i : Nat) (w : Jvm.Cond) : Bool := decide (ztb i = some w) && goodWord w
theorem zat_e {i : Nat} {w : Jvm.Cond} (h : zat i w = true) : w ∈ lw_tbl ∧ goodWord w = true := by
  unfold zat at h
  rw [Bool.and_eq_true, decide_eq_true_eq] at h
  exact ⟨ztb_in h.1, h.2⟩
def zisn (w : Jvm.Cond) : Bool := match w with
  | .methodLinkNest _ _ _ _ => true
  | _ => false
def znw : List Jvm.Cond := lw_tbl.filter zisn
def zwd (μ : Nat) : List Jvm.Cond := Jvm.Cond.code (zy μ) (zcode μ) (zmaxL μ) (zret μ) :: lw_tbl.filter goodWord
theorem zwd_in {μ : Nat} {w : Jvm.Cond} (h : w ∈ lw_tbl ∧ goodWord w = true) : w ∈ zwd μ := List.mem_cons_of_mem _ (List.mem_filter.mpr h)
def zclf (t : Option vw_C) (own : String) (init : Bool) (k j pl : Nat) (put : Bool) : Bool := match t with
  | some q => decide (j < q.2.2) && zat pl (.fieldLink own k q.1 (q.2.1 j).2.1 (q.2.1 j).2.2.1) && (!put || !(q.2.1 j).2.2.2 || (init && decide (q.1 = own)))
  | none => false
def zchf (μ k : Nat) (r : List Nat) (put : Bool) : Bool := decide (r.getD 3 0 = zft (r.getD 0 0) (r.getD 1 0)) && zclf vwCl[r.getD 0 0]? (zy μ).cls (decide ((zy μ).name = "<init>")) k (r.getD 1 0) (r.getD 2 0) put
def zcln (t : Option vw_C) (own : String) (k pl n : Nat) : Bool := match t with
  | some q => decide (n = q.2.2) && zat pl (.classLink own k q.1)
  | none => false
def zchi (μ k : Nat) (r : List Nat) (op : Nat) : Bool :=
  if r.getD 2 0 = 5 then decide (op = 2) && zat (r.getD 1 0) (.methodLink (zy μ).cls k objectInit)
  else if r.getD 2 0 = 6 then decide (op = 1) && zat (r.getD 1 0) (.methodLink (zy μ).cls k Lib.Math.max.name)
  else if r.getD 2 0 = 7 then decide (op = 1) && zat (r.getD 1 0) (.methodLink (zy μ).cls k Lib.Math.min.name)
  else decide (r.getD 0 0 < zmt.length) && decide (r.getD 4 0 = zrk (r.getD 0 0)) && decide (r.getD 3 0 = zrow (r.getD 0 0) 1) && (match r.getD 2 0 with
    | 0 => decide (op = 0) && zat (r.getD 1 0) (.methodLink (zy μ).cls k (zy (r.getD 0 0))) && decide (zrow (r.getD 0 0) 7 = 0) && decide ((zy (r.getD 0 0)).name ≠ "<init>") && decide ((vwCl[r.getD 5 0]?).map (fun q => q.1) = some (zy (r.getD 0 0)).cls)
    | 1 => decide (op = 1) && zat (r.getD 1 0) (.methodLink (zy μ).cls k (zy (r.getD 0 0))) && decide (zrow (r.getD 0 0) 7 = 1)
    | 2 => decide (op = 2) && zat (r.getD 1 0) (.methodLink (zy μ).cls k (zy (r.getD 0 0))) && decide (zrow (r.getD 0 0) 7 = 0) && decide ((zy (r.getD 0 0)).name = "<init>")
    | 3 => decide (op = 1) && decide (ztb (r.getD 1 0) = some (.methodLinkNest (zy μ).cls k (zy (r.getD 0 0)) "LettersThatPass")) && decide (zrow (r.getD 0 0) 7 = 1)
    | 4 => decide (op = 2) && decide (ztb (r.getD 1 0) = some (.methodLinkNest (zy μ).cls k (zy (r.getD 0 0)) "LettersThatPass")) && decide (zrow (r.getD 0 0) 7 = 0) && decide ((zy (r.getD 0 0)).name = "<init>")
    | _ => false)
def zch2 (μ pc : Nat) (i : zIns) : Bool := match i.1 with
  | .iconst n => decide (-5 ≤ n ∧ n ≤ 5)
  | .bipush n => decide (-128 ≤ n ∧ n < 128)
  | .sipush n => decide (-32768 ≤ n ∧ n < 32768)
  | .ldc k => decide (i.2.getD 0 0 < 2147483648) && zat (i.2.getD 1 0) (.constant (zy μ).cls k (Int32.ofInt ((i.2.getD 0 0 : Nat) : Int)))
  | .ldc_w k => decide (i.2.getD 0 0 < 2147483648) && zat (i.2.getD 1 0) (.constant (zy μ).cls k (Int32.ofInt ((i.2.getD 0 0 : Nat) : Int)))
  | .ldc2_w k => decide (i.2.getD 0 0 < 9223372036854775808) && zat (i.2.getD 1 0) (.constantLong (zy μ).cls k (Int64.ofInt ((i.2.getD 0 0 : Nat) : Int)))
  | .istore n => decide (n < zmaxL μ)
  | .istore_n n => decide ((n : Nat) < zmaxL μ)
  | .astore n => decide (n < zmaxL μ)
  | .astore_n n => decide ((n : Nat) < zmaxL μ)
  | .lstore n => decide (n + 1 < zmaxL μ)
  | .lstore_n n => decide ((n : Nat) + 1 < zmaxL μ)
  | .iinc n _ => decide (n < zmaxL μ)
  | .getfield k => zchf μ k i.2 false
  | .putfield k => zchf μ k i.2 true
  | .aaload => decide (i.2.getD 0 0 = 23 ∨ i.2.getD 0 0 = 24)
  | .aastore => decide (i.2.getD 0 0 = 23 ∨ i.2.getD 0 0 = 24)
  | .new k => decide (i.2.getD 0 0 < 11) && zcln vwCl[i.2.getD 0 0]? (zy μ).cls k (i.2.getD 1 0) (i.2.getD 2 0)
  | .newarray t => decide (t = .int ∧ i.2.getD 0 0 = 20 ∨ t = .boolean ∧ i.2.getD 0 0 = 21 ∨ t = .long ∧ i.2.getD 0 0 = 22)
  | .anewarray k => decide (i.2.getD 0 0 = 23) && zat (i.2.getD 1 0) (.classLink (zy μ).cls k RX2) || decide (i.2.getD 0 0 = 24) && zat (i.2.getD 1 0) (.classLink (zy μ).cls k RX5)
  | .goto o => decide ((pc : Int) + o = ((i.2.getD 0 0 : Nat) : Int))
  | .ifCond _ o => decide ((pc : Int) + o = ((i.2.getD 0 0 : Nat) : Int))
  | .if_icmp _ o => decide ((pc : Int) + o = ((i.2.getD 0 0 : Nat) : Int))
  | .tableswitch d lo hi offs => decide (hi = lo + offs.toList.length - 1) && decide (0 ≤ (pc : Int) + d) && offs.toList.all (fun o => decide (0 ≤ (pc : Int) + o))
  | .invokevirtual k => zchi μ k i.2 0
  | .invokestatic k => zchi μ k i.2 1
  | .invokespecial k => zchi μ k i.2 2
  | _ => true
def zch (μ pc : Nat) (i : zIns) : Bool := decide (decode (zcode μ) pc = .ok (i.1, zlen i.1)) && zch2 μ pc i
/-- a class's facts -/
def zclp (ci : Nat) (q : vw_C) : Prop := (∀ w ∈ u_ws q.1 q.2.1 q.2.2, w ∈ lw_tbl ∧ goodWord w = true) ∧ (.instantiable q.1 q.2.2 ∈ lw_tbl ∧ goodWord (.instantiable q.1 q.2.2) = true) ∧ (.initialized q.1 ∈ lw_tbl ∧ goodWord (.initialized q.1) = true) ∧ znf ci = q.2.2 ∧ (∀ a, a < q.2.2 → ∀ b, b < q.2.2 → a ≠ b → (q.2.1 a).2.1 ≠ (q.2.1 b).2.1) ∧
  ∃ ty0 : Nat → FieldType, (∀ k, k < q.2.2 → parseFieldDescriptor (q.2.1 k).2.2.1 = some (ty0 k)) ∧ ∀ j, j < q.2.2 → (q.2.1 j).1 = q.1 ∧ (zft ci j = 0 ∧ ty0 j = .int ∨ zft ci j = 1 ∧ ty0 j = .boolean ∨ zft ci j = 2 ∧ (ty0 j).isReference = true)
theorem zclp_0 : zclp 0 (RX0, TX0, 4) := ⟨by decide +kernel, by decide +kernel, by decide +kernel, by decide +kernel, nmX0, tyX0, tyX0_ok, by decide +kernel⟩
theorem zclp_1 : zclp 1 (RX1, TX1, 3) := ⟨by decide +kernel, by decide +kernel, by decide +kernel, by decide +kernel, nmX1, tyX1, tyX1_ok, by decide +kernel⟩
theorem zclp_2 : zclp 2 (RX2, TX2, 2) := ⟨by decide +kernel, by decide +kernel, by decide +kernel, by decide +kernel, nmX2, tyX2, tyX2_ok, by decide +kernel⟩
theorem zclp_3 : zclp 3 (RX3, TX3, 3) := ⟨by decide +kernel, by decide +kernel, by decide +kernel, by decide +kernel, nmX3, tyX3, tyX3_ok, by decide +kernel⟩
theorem zclp_4 : zclp 4 (RX4, TX4, 4) := ⟨by decide +kernel, by decide +kernel, by decide +kernel, by decide +kernel, nmX4, tyX4, tyX4_ok, by decide +kernel⟩
theorem zclp_5 : zclp 5 (RX5, TX5, 2) := ⟨by decide +kernel, by decide +kernel, by decide +kernel, by decide +kernel, nmX5, tyX5, tyX5_ok, by decide +kernel⟩
theorem zclp_6 : zclp 6 (RX6, TX6, 3) := ⟨by decide +kernel, by decide +kernel, by decide +kernel, by decide +kernel, nmX6, tyX6, tyX6_ok, by decide +kernel⟩
theorem zclp_7 : zclp 7 (RX7, TX7, 7) := ⟨by decide +kernel, by decide +kernel, by decide +kernel, by decide +kernel, nmX7, tyX7, tyX7_ok, by decide +kernel⟩
theorem zclp_8 : zclp 8 (RX8, TX8, 10) := ⟨by decide +kernel, by decide +kernel, by decide +kernel, by decide +kernel, nmX8, tyX8, tyX8_ok, by decide +kernel⟩
theorem zclp_9 : zclp 9 (RX9, TX9, 16) := ⟨by decide +kernel, by decide +kernel, by decide +kernel, by decide +kernel, nmX9, tyX9, tyX9_ok, by decide +kernel⟩
theorem zclp_10 : zclp 10 (RX10, TX10, 36) := ⟨by decide +kernel, by decide +kernel, by decide +kernel, by decide +kernel, nmX10, tyX10, tyX10_ok, by decide +kernel⟩
theorem zclp_all : ∀ (ci : Nat) (q : vw_C), vwCl[ci]? = some q → zclp ci q
  | 0, q, h => by cases h; exact zclp_0
  | 1, q, h => by cases h; exact zclp_1
  | 2, q, h => by cases h; exact zclp_2
  | 3, q, h => by cases h; exact zclp_3
  | 4, q, h => by cases h; exact zclp_4
  | 5, q, h => by cases h; exact zclp_5
  | 6, q, h => by cases h; exact zclp_6
  | 7, q, h => by cases h; exact zclp_7
  | 8, q, h => by cases h; exact zclp_8
  | 9, q, h => by cases h; exact zclp_9
  | 10, q, h => by cases h; exact zclp_10
  | n + 11, q, h => by simp [vwCl] at h
def zchb (μ : Nat) : Nat → List zIns → Bool
  | _, [] => true
  | pc, i :: is => zch μ pc i && zchb μ (pc + zlen i.1) is
def zchM (μ : Nat) : Bool := (zcd.getD μ []).all (fun q => zchb μ q.1 q.2)
