/-! all straight instructions together -/
section ZP
variable {p : Program} {l : Launch} {e : Env} {s : State} {m : MethodId} {args : Array Value} {below : List Frame} {meth : Method} {c : Code} {D : va_G} {ca : Nat → ClassId} {A : Nat → Prop} {d μ : Nat} {b : zB} {ad0 : Nat → Nat} {Qs : State → Prop}
variable {pc : Nat} {S : zMS} {k : zMS → Prop}
theorem zwr_o (x : Int) : Int32.ofInt (zwr x) = Int32.ofInt x := by unfold zwr; rw [Int32.ofInt_toInt]
theorem zwl_o (x : Int) : Int64.ofInt (zwl x) = Int64.ofInt x := by unfold zwl; rw [Int64.ofInt_toInt]
set_option maxHeartbeats 4000000 in
theorem zsop_ok {i : zIns} (C0 : zCx p s m args meth c D ca A μ) (hch : zch μ pc i = true) (h : zsop b i S k) (hk : ∀ S', k S' → zWS p l e s m args below meth c D ca A d μ b ad0 Qs (pc + zlen i.1) S') : zWS p l e s m args below meth c D ca A d μ b ad0 Qs pc S := by
  obtain ⟨hd, h2⟩ := zdec hch
  obtain ⟨hx, hb, hml, hr, hown, hlocks, hin, hts, hnw, hao, hK, hA⟩ := id C0
  obtain ⟨ins, r⟩ := i
  cases ins
  case iconst n =>
    have hn : -5 ≤ n ∧ n ≤ 5 := of_decide_eq_true h2
    exact zs_push (v := zI n) (x := .int (Int32.ofInt n)) (fun _ => ⟨by omega, by omega⟩) (fun _ => rfl) (fun H locs cv rest cells slots w => lv_iconst hx hb hd rfl w) h hk
  case bipush n =>
    have hn : -128 ≤ n ∧ n < 128 := of_decide_eq_true h2
    have he : (Int8.ofInt n).toInt32 = Int32.ofInt n := Int32.toInt_inj.mp (by rw [Int8.toInt_toInt32, Int8.toInt_ofInt_of_le (by omega) (by omega), Int32.toInt_ofInt_of_le (by omega) (by omega)])
    exact zs_push (v := zI n) (x := .int (Int32.ofInt n)) (fun _ => ⟨by omega, by omega⟩) (fun _ => rfl) (fun H locs cv rest cells slots w => lv_bipush hx hb hd he w) h hk
  case sipush n =>
    have hn : -32768 ≤ n ∧ n < 32768 := of_decide_eq_true h2
    have he : (Int16.ofInt n).toInt32 = Int32.ofInt n := Int32.toInt_inj.mp (by rw [Int16.toInt_toInt32, Int16.toInt_ofInt_of_le (by omega) (by omega), Int32.toInt_ofInt_of_le (by omega) (by omega)])
    exact zs_push (v := zI n) (x := .int (Int32.ofInt n)) (fun _ => ⟨by omega, by omega⟩) (fun _ => rfl) (fun H locs cv rest cells slots w => lv_sipush hx hb hd he w) h hk
  case lconst n =>
    have hn : (n : Nat) < 2 := n.isLt
    exact zs_push (v := zL ((n : Nat) : Int)) (x := .long (Int64.ofInt ((n : Nat) : Int))) (fun _ => ⟨by omega, by omega⟩) (fun _ => rfl) (fun H locs cv rest cells slots w => lv_lconst hx hb hd (by rw [Int64.ofInt_eq_ofNat]) w) h hk
  case ldc n =>
    obtain ⟨k1, k2⟩ := zat_e2 h2
    have k1 : r.getD 0 0 < 2147483648 := of_decide_eq_true k1
    exact zs_push (v := zI ((r.getD 0 0 : Nat) : Int)) (x := .int (Int32.ofInt ((r.getD 0 0 : Nat) : Int))) (fun _ => ⟨by omega, by omega⟩) (fun _ => rfl) (fun H locs cv rest cells slots w => lv_ldc hx hb hown (hts _ (zwd_in (zat_e k2))) hd w) h hk
  case ldc_w n =>
    obtain ⟨k1, k2⟩ := zat_e2 h2
    have k1 : r.getD 0 0 < 2147483648 := of_decide_eq_true k1
    exact zs_push (v := zI ((r.getD 0 0 : Nat) : Int)) (x := .int (Int32.ofInt ((r.getD 0 0 : Nat) : Int))) (fun _ => ⟨by omega, by omega⟩) (fun _ => rfl) (fun H locs cv rest cells slots w => lv_ldcw hx hb hown (hts _ (zwd_in (zat_e k2))) hd w) h hk
  case ldc2_w n =>
    obtain ⟨k1, k2⟩ := zat_e2 h2
    have k1 : r.getD 0 0 < 9223372036854775808 := of_decide_eq_true k1
    exact zs_push (v := zL ((r.getD 0 0 : Nat) : Int)) (x := .long (Int64.ofInt ((r.getD 0 0 : Nat) : Int))) (fun _ => ⟨by omega, by omega⟩) (fun _ => rfl) (fun H locs cv rest cells slots w => lv_ldc2 hx hb hown (hts _ (zwd_in (zat_e k2))) hd w) h hk
  case iload n => exact zs_ldI (i := n) (fun H locs cv rest cells slots x hx1 w => lv_iload hx hb hd hx1 w) h hk
  case iload_n n => exact zs_ldI (i := (n : Nat)) (fun H locs cv rest cells slots x hx1 w => lv_iload_n hx hb hd rfl hx1 w) h hk
  case lload n => exact zs_ldL (i := n) (fun H locs cv rest cells slots x hx1 w => lv_lload hx hb hd hx1 w) h hk
  case lload_n n => exact zs_ldL (i := (n : Nat)) (fun H locs cv rest cells slots x hx1 w => lv_lload_n hx hb hd rfl hx1 w) h hk
  case aload n => exact zs_ldR (i := n) (fun H locs cv rest cells slots x hx1 w => lv_aload hx hb hd hx1 w) h hk
  case aload_n n => exact zs_ldR (i := (n : Nat)) (fun H locs cv rest cells slots x hx1 w => lv_aload_n hx hb hd rfl hx1 w) h hk
  case istore n => exact zs_stI (i := n) (fun H locs cv rest cells slots x lv hl w => lv_istore hx hb hd hl (of_decide_eq_true h2) rfl w) h hk
  case istore_n n => exact zs_stI (i := (n : Nat)) (fun H locs cv rest cells slots x lv hl w => lv_istore_n hx hb hd rfl hl (of_decide_eq_true h2) rfl w) h hk
  case astore n => exact zs_stR (i := n) (fun H locs cv rest cells slots x lv hl w => lv_astore hx hb hd hl (of_decide_eq_true h2) rfl w) h hk
  case astore_n n => exact zs_stR (i := (n : Nat)) (fun H locs cv rest cells slots x lv hl w => lv_astore_n hx hb hd rfl hl (of_decide_eq_true h2) rfl w) h hk
  case lstore n => exact zs_stL (i := n) (fun H locs cv rest cells slots x lv hl w => lv_lstore hx hb hd hl (of_decide_eq_true h2) rfl w) h hk
  case lstore_n n => exact zs_stL (i := (n : Nat)) (fun H locs cv rest cells slots x lv hl w => lv_lstore_n hx hb hd rfl hl (of_decide_eq_true h2) rfl w) h hk
  case iinc n z => exact zs_inc hx hb hd (of_decide_eq_true h2) h hk
  case iadd => exact zs_bin (F := fun x y => x + y) (fun x y => by rw [Int32.ofInt_toInt, Int32.ofInt_add]) (fun x y => zr32_of _) (fun H locs cv rest cells slots x y w => lv_iadd hx hb hd w) h hk
  case isub => exact zs_bin (F := fun x y => x - y) (fun x y => by rw [Int32.ofInt_toInt, Int32.ofInt_sub]) (fun x y => zr32_of _) (fun H locs cv rest cells slots x y w => lv_isub hx hb hd w) h hk
  case imul => exact zs_bin (F := fun x y => x * y) (fun x y => by rw [Int32.ofInt_toInt, Int32.ofInt_mul]) (fun x y => zr32_of _) (fun H locs cv rest cells slots x y w => lv_imul hx hb hd w) h hk
  case iand => exact zs_bin (F := fun x y => x &&& y) (fun x y => by rw [Int32.ofInt_toInt]) (fun x y => zr32_of _) (fun H locs cv rest cells slots x y w => lv_iand hx hb hd w) h hk
  case ior => exact zs_bin (F := fun x y => x ||| y) (fun x y => by rw [Int32.ofInt_toInt]) (fun x y => zr32_of _) (fun H locs cv rest cells slots x y w => lv_ior hx hb hd w) h hk
  case ixor => exact zs_bin (F := fun x y => x ^^^ y) (fun x y => by rw [Int32.ofInt_toInt]) (fun x y => zr32_of _) (fun H locs cv rest cells slots x y w => lv_ixor hx hb hd w) h hk
  case ishl => exact zs_bin (F := fun x y => x <<< (y &&& 31)) (fun x y => by rw [Int32.ofInt_toInt]) (fun x y => zr32_of _) (fun H locs cv rest cells slots x y w => lv_ishl hx hb hd w) h hk
  case ishr => exact zs_bin (F := fun x y => x >>> (y &&& 31)) (fun x y => by rw [Int32.ofInt_toInt]) (fun x y => zr32_of _) (fun H locs cv rest cells slots x y w => lv_ishr hx hb hd w) h hk
  case iushr => exact zs_bin (F := fun x y => (x.toUInt32 >>> (y.toUInt32 &&& Int32.toUInt32 31)).toInt32) (fun x y => by rw [Int32.ofInt_toInt]) (fun x y => zr32_of _) (fun H locs cv rest cells slots x y w => lv_iushr hx hb hd rfl w) h hk
  case idiv => exact zs_binN (F := fun x y => x / y) (fun x y => by rw [Int32.ofInt_toInt]) (fun x y => zr32_of _) (fun H locs cv rest cells slots x y hne w => lv_idiv hx hb hd hne w) h hk
  case irem => exact zs_binN (F := fun x y => x - x / y * y) (fun x y => by rw [Int32.ofInt_toInt]) (fun x y => zr32_of _) (fun H locs cv rest cells slots x y hne w => lv_irem hx hb hd hne w) h hk
  case ineg => exact zs_un (F := fun x => -x) (fun x => by rw [Int32.ofInt_toInt, Int32.ofInt_neg]) (fun x => zr32_of _) (fun H locs cv rest cells slots x w => lv_ineg hx hb hd w) h hk
  case ladd => exact zs_lbin (F := fun x y => x + y) (fun x y => by rw [Int64.ofInt_toInt, Int64.ofInt_add]) (fun x y => zr64_of _) (fun H locs cv rest cells slots x y w => lv_ladd hx hb hd w) h hk
  case lsub => exact zs_lbin (F := fun x y => x - y) (fun x y => by rw [Int64.ofInt_toInt, Int64.ofInt_sub]) (fun x y => zr64_of _) (fun H locs cv rest cells slots x y w => lv_lsub hx hb hd w) h hk
  case lmul => exact zs_lbin (F := fun x y => x * y) (fun x y => by rw [Int64.ofInt_toInt, Int64.ofInt_mul]) (fun x y => zr64_of _) (fun H locs cv rest cells slots x y w => lv_lmul hx hb hd w) h hk
  case ldiv => exact zs_lbinN (F := fun x y => x / y) (fun x y => by rw [Int64.ofInt_toInt]) (fun x y => zr64_of _) (fun H locs cv rest cells slots x y hne w => lv_ldiv hx hb hd hne w) h hk
  case lrem => exact zs_lbinN (F := fun x y => x - x / y * y) (fun x y => by rw [Int64.ofInt_toInt]) (fun x y => zr64_of _) (fun H locs cv rest cells slots x y hne w => lv_lrem hx hb hd hne w) h hk
  case lneg => exact zs_lng hx hb hd h hk
  case lcmp => exact zs_lcm hx hb hd h hk
  case i2l => exact zs_i2l hx hb hd h hk
  case dup => exact zs_dup hx hb hd h hk
  case dup2 => exact zs_du2 hx hb hd h hk
  case pop => exact zs_pop hx hb hd h hk
  case getfield n => exact zs_gf C0 hd h2 h hk
  case putfield n => exact zs_pf C0 hd h2 h hk
  case iaload => exact zs_ial C0 hd h hk
  case baload => exact zs_bal C0 hd h hk
  case laload => exact zs_lal C0 hd h hk
  case aaload => exact zs_aal (of_decide_eq_true h2) C0 hd h hk
  case iastore => exact zs_ias C0 hd h hk
  case bastore => exact zs_bas C0 hd h hk
  case lastore => exact zs_las C0 hd h hk
  case aastore => exact zs_aas (of_decide_eq_true h2) C0 hd h hk
  case arraylength => exact zs_ale C0 hd h hk
  case new n =>
    obtain ⟨k1, k2⟩ := zat_e2 h2
    exact zs_new C0 hd k2 h hk
  case newarray n => exact zs_nwa C0 hd (of_decide_eq_true h2) h hk
  case anewarray n =>
    have h2 : (decide (r.getD 0 0 = 23) && zat (r.getD 1 0) (.classLink (zy μ).cls n RX2) || decide (r.getD 0 0 = 24) && zat (r.getD 1 0) (.classLink (zy μ).cls n RX5)) = true := h2
    rw [Bool.or_eq_true] at h2
    rcases h2 with h2 | h2
    · obtain ⟨k1, k2⟩ := zat_e2 h2
      exact zs_ana (C := RX2) C0 hd (Or.inl ⟨of_decide_eq_true k1, rfl⟩) (zwd_in (zat_e k2)) h hk
    · obtain ⟨k1, k2⟩ := zat_e2 h2
      exact zs_ana (C := RX5) C0 hd (Or.inr ⟨of_decide_eq_true k1, rfl⟩) (zwd_in (zat_e k2)) h hk
  all_goals exact absurd h id
end ZP
