/-! the law: its loop, its start -/
theorem i63 (x : Int32) : ∃ k : Nat, k < 64 ∧ (x &&& 63).toInt = (k : Int) := by
  refine ⟨x.toBitVec.toNat % 64, Nat.mod_lt _ (by decide), ?_⟩
  have h : (x &&& 63).toBitVec.toNat = x.toBitVec.toNat % 64 := by
    rw [Int32.toBitVec_and, BitVec.toNat_and]
    exact Nat.and_two_pow_sub_one_eq_mod _ 6
  show (x &&& 63).toBitVec.toInt = _
  rw [BitVec.toInt_eq_toNat_of_lt (by rw [h]; omega), h]
theorem lI_ge {i L : Nat} (hL : L ≤ 2560) (hi : i ≤ 2560) (h : ¬ Int32.ofNat L - Int32.ofInt 5 < Int32.ofNat i) : i + 5 ≤ L := by
  rw [Int32.lt_iff_toInt_lt, Int32.toInt_sub, Int32.toInt_ofNat_of_lt (by omega), Int32.toInt_ofNat_of_lt (by omega), Int32.toInt_ofInt_of_le (by omega) (by omega), Int.bmod_eq_of_le (by omega) (by omega)] at h
  omega
theorem lw_d0 : ldk 0 (.new 7) 3 = true := by decide +kernel
theorem lw_d3 : ldk 3 .dup 1 = true := by decide +kernel
theorem lw_d4 : ldk 4 (.invokespecial 9) 3 = true := by decide +kernel
theorem lw_d7 : ldk 7 (.astore_n 1) 1 = true := by decide +kernel
theorem lw_d8 : ldk 8 (.new 10) 3 = true := by decide +kernel
theorem lw_d11 : ldk 11 .dup 1 = true := by decide +kernel
theorem lw_d12 : ldk 12 (.invokespecial 12) 3 = true := by decide +kernel
theorem lw_d15 : ldk 15 (.astore_n 2) 1 = true := by decide +kernel
theorem lw_d16 : ldk 16 (.iconst 0) 1 = true := by decide +kernel
theorem lw_d17 : ldk 17 (.istore_n 3) 1 = true := by decide +kernel
theorem lw_d18 : ldk 18 (.iload_n 3) 1 = true := by decide +kernel
theorem lw_d19 : ldk 19 (.aload_n 0) 1 = true := by decide +kernel
theorem lw_d20 : ldk 20 .arraylength 1 = true := by decide +kernel
theorem lw_d21 : ldk 21 (.iconst 5) 1 = true := by decide +kernel
theorem lw_d22 : ldk 22 .isub 1 = true := by decide +kernel
theorem lw_d23 : ldk 23 (.if_icmp .gt 1391) 3 = true := by decide +kernel
theorem lw_d26 : ldk 26 (.aload_n 0) 1 = true := by decide +kernel
theorem lw_d27 : ldk 27 (.iload_n 3) 1 = true := by decide +kernel
theorem lw_d28 : ldk 28 .iaload 1 = true := by decide +kernel
theorem lw_d29 : ldk 29 (.bipush 63) 2 = true := by decide +kernel
theorem lw_d31 : ldk 31 .iand 1 = true := by decide +kernel
theorem lw_d32 : ldk 32 (.tableswitch 1376 0 37 loffs) 168 = true := by decide +kernel
theorem lw_d1408 : ldk 1408 (.iinc 3 5) 3 = true := by decide +kernel
theorem lw_d1411 : ldk 1411 (.goto (-1393)) 3 = true := by decide +kernel
theorem lw_d1414 : ldk 1414 (.iconst 1) 1 = true := by decide +kernel
theorem lw_d1415 : ldk 1415 .ireturn 1 = true := by decide +kernel
section LC
variable {p : Program} {l : Launch} {e : Env} {s : State} {m : MethodId} {below : List Frame} {meth : Method} {c : Code} {b L : Nat} {xs : Nat → Int32} {D : va_G} {ca : Nat → ClassId} {a0 a1 : Nat}
theorem l_loop (C0 : lX p s m meth c b L xs D ca) (hL : L ≤ 2560) : ∀ (n i : Nat), L - i < n → i ≤ L → ∀ (H : Heap) (locs : List Loc) (ad : Nat → Nat) (w : zW) (cv : Array Slot), lS D ca s H locs ad w → zBoth w → w.1 = SH → ad 0 = a0 → ad 112 = a1 → lv_has cv 4 (lLv b a0 a1 i) → W p l e room_1 s m #[Value.ref b] below meth c H locs 140 31027 (lw_Z below #[Value.ref b] s) (F0 m 18 cv []) := by
  have hx := C0.1.1
  have hb := C0.1.2.1
  have hr := C0.1.2.2.1
  have hX := C0.1.2.2.2.2.2.2.1
  have hbl := C0.1.2.2.2.2.2.2.2.1
  have hlocks := C0.1.2.2.2.2.2.2.2.2.1
  intro n
  induction n with
  | zero => intro i h; omega
  | succ n ih =>
    intro i hn hi H locs ad w cv hs hw hSH h0 h1 hcv
    have hnext : ∀ (H1 : Heap) (locs1 : List Loc) (ad' : Nat → Nat) (w' : zW), i + 5 ≤ L → lS D ca s H1 locs1 ad' w' → zBoth w' → w'.1 = SH → ad' 0 = a0 → ad' 112 = a1 → W p l e room_1 s m #[Value.ref b] below meth c H1 locs1 140 31027 (lw_Z below #[Value.ref b] s) (F0 m 1408 cv []) := by
      intro H1 locs1 ad' w' h5 g1 g2 g3 g4 g5
      refine lv_iinc (v := Int32.ofNat (i + 5)) (lv' := lLv b a0 a1 (i + 5)) hx hb (ldk_e lw_d1408) hcv (k := 0) rfl (lj_add i 5 (by omega)) (by decide) rfl (fun cv' hcv' => ?_)
      refine lv_goto (tgt := 18) hx hb (ldk_e lw_d1411) (by decide) ?_
      exact ih (i + 5) (by omega) h5 H1 locs1 ad' w' cv' g1 g2 g3 g4 g5 hcv'
    refine lv_iload_n hx hb (ldk_e lw_d18) rfl (lv_at hcv 0 rfl) ?_
    refine lv_aload_n hx hb (ldk_e lw_d19) rfl (lv_at hcv 3 rfl) ?_
    refine va_slen hx hb hX hbl (Nat.not_le.mpr hbl) hs.2.2.1 (ldk_e lw_d20) ?_
    refine lv_iconst hx hb (ldk_e lw_d21) rfl ?_
    refine lv_isub hx hb (ldk_e lw_d22) ?_
    refine lv_icmp_gt (tgt := 1414) hx hb (ldk_e lw_d23) (by decide) (fun q => ?_) (fun q => ?_)
    · refine lv_iconst (v := 1) hx hb (ldk_e lw_d1414) (by decide) ?_
      refine va_forget hs.2.2.1.2.2 ?_
      refine W.widen (k := 600000) (n := 7302250) (by decide) (by decide) ?_
      exact lw_ret hx hb hr hlocks (ldk_e lw_d1415)
    · have h5 : i + 5 ≤ L := lI_ge hL (by omega) q
      refine lv_aload_n hx hb (ldk_e lw_d26) rfl (lv_at hcv 3 rfl) ?_
      refine lv_iload_n hx hb (ldk_e lw_d27) rfl (lv_at hcv 0 rfl) ?_
      refine va_sld hx hb hX hbl (Nat.not_le.mpr hbl) hs.2.2.1 (lj_in (by omega) hL) (ldk_e lw_d28) ?_
      rw [lj_nat (by omega)]
      refine lv_bipush (v := 63) hx hb (ldk_e lw_d29) (by decide) ?_
      refine lv_iand hx hb (ldk_e lw_d31) ?_
      obtain ⟨k, hk, ek⟩ := i63 (xs i)
      by_cases hk2 : k < 38
      · obtain ⟨pc, n', idx, idx', μ, μ', pl, pl', lg, r1, r2, r3, r4⟩ := l_rows (xs := xs) (i := i) k hk2
        refine lv_tableIn hx hb (ldk_e lw_d32) (by rw [ek]; omega) (by rw [ek]; omega) (off := (pc : Int) - 32) (by rw [ek, Int.sub_zero, Int.toNat_natCast]; exact r1) (tgt := pc) (by omega) ?_
        exact l_case C0 hL h5 r2 r3 r4 hs hw hSH h0 h1 hcv (by decide) (by decide) (fun H1 locs1 ad' w' g1 g2 g3 g4 g5 => hnext H1 locs1 ad' w' h5 g1 g2 g3 g4 g5)
      · exact lv_tableOut hx hb (ldk_e lw_d32) (Or.inr (by rw [ek]; omega)) (tgt := 1408) (by decide) (hnext H locs ad w h5 hs hw hSH h0 h1)
end LC
theorem l_classes {s : State} {b : Nat} (hts : ∀ w ∈ lw_tbl, w.before #[Value.ref b] s = true) : ∃ D : va_G, ∀ (k : Nat) (q : vw_C), vwCl[k]? = some q → u_Kn s q.1 q.2.1 q.2.2 (D.1 k) (D.2 k) := by
  have h : ∀ k : Nat, ∃ (cC : ClassId) (iS : Nat → Nat), ∀ q : vw_C, vwCl[k]? = some q → u_Kn s q.1 q.2.1 q.2.2 cC iS := by
    intro k
    cases hq : vwCl[k]? with
    | none => exact ⟨(0 : Nat), fun _ => 0, fun q h => by cases h⟩
    | some q0 =>
      obtain ⟨q1, q2, -⟩ := zclp_all _ _ hq
      obtain ⟨cC, iS, hKn⟩ := u_known hts (fun w hw => (q1 w hw).1) (hts _ q2.1)
      exact ⟨cC, iS, fun q h => by cases h; exact hKn⟩
  exact ⟨(fun k => (h k).choose, fun k => (h k).choose_spec.choose), fun k q hq => (h k).choose_spec.choose_spec q hq⟩
theorem l_arrI {s : State} {b : Nat} {ty : FieldType} (h : (Jvm.Cond.arrayClass ty).before #[Value.ref b] s = true) : ∃ cA : ClassId, ArrOfT s cA ty ∧ s.vm.findClass ("[" ++ ty.toString) = some cA := by
  obtain ⟨cA, k, comp, h1, h2, h3⟩ := Cond.arrayClass_spec h
  exact ⟨cA, fun n z => ⟨fun k h => (by cases h), k, h2, comp, h3⟩, h1⟩
theorem l_arrO {s : State} {b : Nat} {C : String} (h : (Jvm.Cond.arrayOver (.object C)).before #[Value.ref b] s = true) : ∃ cA : ClassId, ArrOfT s cA (.object C) ∧ va_RA s cA (.object C) := by
  obtain ⟨comp, cA, k, h1, h2, h3, h4, h5⟩ := Cond.arrayOver_spec h
  exact ⟨cA, fun n z => ⟨fun k h => (by cases h), k, h3, comp, h4⟩, k, comp, h3, h4, h1, h5⟩
theorem l_known {s : State} {b : Nat} (hts : ∀ w ∈ lw_tbl, w.before #[Value.ref b] s = true) : ∃ (D : va_G) (ca : Nat → ClassId), va_K D vwCl (ztys ca) s ∧ (∀ w ∈ znw, va_Nw w s) ∧ va_AO RX2 s ∧ va_AO RX5 s := by
  obtain ⟨D, hD⟩ := l_classes hts
  obtain ⟨c0, a0, b0⟩ := l_arrI (hts (.arrayClass .int) (ztb_in (i := 84) (by decide +kernel)))
  obtain ⟨c1, a1, b1⟩ := l_arrI (hts (.arrayClass .boolean) (ztb_in (i := 178) (by decide +kernel)))
  obtain ⟨c2, a2, b2⟩ := l_arrI (hts (.arrayClass .long) (ztb_in (i := 228) (by decide +kernel)))
  have o3 : (Jvm.Cond.arrayOver (.object RX2)).before #[Value.ref b] s = true := hts _ (ztb_in (i := 125) (by decide +kernel))
  have o4 : (Jvm.Cond.arrayOver (.object RX5)).before #[Value.ref b] s = true := hts _ (ztb_in (i := 92) (by decide +kernel))
  obtain ⟨c3, a3, b3⟩ := l_arrO o3
  obtain ⟨c4, a4, b4⟩ := l_arrO o4
  refine ⟨D, fun k => if k = 20 then c0 else if k = 21 then c1 else if k = 22 then c2 else if k = 23 then c3 else c4, ⟨hD, ?_⟩, fun w hw => ?_, va_AO.of o3, va_AO.of o4⟩
  · intro k q hq
    match k, hq with
    | 0, hq => cases hq; exact ⟨a0, b0⟩
    | 1, hq => cases hq; exact ⟨a1, b1⟩
    | 2, hq => cases hq; exact ⟨a2, b2⟩
    | 3, hq => cases hq; exact ⟨a3, b3⟩
    | 4, hq => cases hq; exact ⟨a4, b4⟩
    | k + 5, hq => simp [ztys] at hq
  · obtain ⟨a, i, x, y, rfl⟩ := znw_isn hw
    exact va_Nw.of rfl (hts _ (List.mem_filter.mp hw).1)
theorem lz64_0 : zr64 0 := ⟨by decide, by decide⟩
theorem SH1_len : SH1.length = 112 := by decide +kernel
theorem SH1_sz : zsz SH1 = 3637 := by decide +kernel
theorem whole_start {p : Program} {e : Env} {s : State} {m : MethodId} {below : List Frame} {meth : Method} {c : Code} (l : Launch) (hflags : l.flags = flags0) {b L : Nat} {xs : Nat → Int32} (hL : L ≤ 2560) (C0 : lw_At p s m meth c b L xs) : W p l e room_1 s m #[Value.ref b] below meth c s.heap [] 0 0 (lw_Z below #[Value.ref b] s) (entryFrame m ([Value.ref b] : List Value).toArray 4) := by
  obtain ⟨hx, hb, hr, hml, hown, hts, hX, hbl, hlocks, hgv⟩ := id C0
  obtain ⟨D, ca, hK⟩ := l_known hts
  have C1 : lX p s m meth c b L xs D ca := ⟨C0, hK⟩
  have hl := lv_entry ([.ref b]) (n := 4) (Nat.le_of_ble_eq_true rfl)
  rw [lg_entry_eq]
  generalize (lg_sl ([.ref b]) ++ List.replicate (4 - (lg_sl ([.ref b])).length) Slot.unset).toArray = ls at hl ⊢
  have hl : lv_has ls 4 [(0, .ref b)] := hl
  have hs0 : lS D ca s s.heap [] (fun _ => 0) ([], (fun _ _ => 0), (fun _ _ => 0)) := ⟨fun k q h => by simp [zws] at h, ⟨fun i j p q h => by simp [zws] at h, fun k q h => by simp [zws] at h⟩, va_S.rf, fun _ _ => zr32_0, fun _ _ => lz64_0, fun k j q h => by simp [zrf] at h, fun k e h => by simp at h⟩
  refine l_new (ci := 9) (nf := 16) C1 hs0 ⟨_, _, rfl, ztb_in (i := 63) (by decide +kernel)⟩ (by decide) (by decide) (by decide) (ldk_e lw_d0) (fun H1 ad1 hs1 _ => ?_)
  refine lv_dup hx hb (ldk_e lw_d3) rfl ?_
  refine l_init (rest := [zR 0]) (rr := 0) (ad := ad1) (w := ([(9, 0, List.replicate 16 none)], qM0, (fun _ _ => 0))) (mc := 111) (ms := 3621) C1 hs1 (by decide) (ztb_in (i := 65) (by decide +kernel)) rfl (by decide +kernel) (by decide) (by decide) rfl (by decide) hl.1 (by decide) (by decide) (by decide) (ldk_e lw_d4) (n_lt _) (fun r w2 ad2 H2 locs2 q1 hs2 k2 => ?_)
  obtain ⟨M, L2, rfl, hE⟩ := q1
  have e0 : ad2 0 = ad1 0 := k2 0 (by decide)
  refine lv_astore_n (lv' := [(1, .ref (ad1 0)), (0, .ref b)]) hx hb (ldk_e lw_d7) rfl hl (by decide) rfl (fun ls hl => ?_)
  refine l_new (ci := 10) (nf := 36) C1 hs2 ⟨_, _, rfl, ztb_in (i := 927) (by decide +kernel)⟩ (by decide) (by decide) (by rw [SH1_len, SH1_sz]; decide) (ldk_e lw_d8) (fun H3 ad3 hs3 k3 => ?_)
  rw [SH1_len] at hs3 k3 ⊢
  refine lv_dup hx hb (ldk_e lw_d11) rfl ?_
  refine l_init (rest := [zR 112]) (rr := 112) (ad := ad3) (mc := 27) (ms := 27354) C1 hs3 (by decide) (ztb_in (i := 929) (by decide +kernel)) rfl (by decide +kernel) (by decide) (by show 112 < (SH1 ++ _).length; rw [List.length_append, SH1_len]; decide) rfl (by decide) hl.1 (by decide) (by decide) (by decide) (ldk_e lw_d12) (hE _) (fun r w4 ad4 H4 locs4 q4 hs4 k4 => ?_)
  have hlen : (SH1 ++ [((10 : Nat), (0 : Nat), List.replicate 36 (none : Option Nat))]).length = 113 := by rw [List.length_append, SH1_len]; rfl
  have e1 : ad4 112 = ad3 112 := k4 112 (by show 112 < (SH1 ++ [((10 : Nat), (0 : Nat), List.replicate 36 (none : Option Nat))]).length; rw [hlen]; decide)
  have e2 : ad4 0 = ad1 0 := by rw [k4 0 (by show 0 < (SH1 ++ [((10 : Nat), (0 : Nat), List.replicate 36 (none : Option Nat))]).length; rw [hlen]; decide), k3 0 (by decide), e0]
  refine lv_astore_n (lv' := [(2, .ref (ad3 112)), (1, .ref (ad1 0)), (0, .ref b)]) hx hb (ldk_e lw_d15) rfl hl (by decide) rfl (fun ls hl => ?_)
  refine lv_iconst (v := Int32.ofNat 0) hx hb (ldk_e lw_d16) (by decide) ?_
  refine lv_istore_n (lv' := lLv b (ad1 0) (ad3 112) 0) hx hb (ldk_e lw_d17) rfl hl (by decide) rfl (fun ls hl => ?_)
  refine W.widen (k := 140) (n := 31027) (by decide) (by decide) ?_
  have hSH : w4.1 = SH := by
    obtain ⟨M, L, P, R, ws, tx, hs, kp, ls, rf, rfl, -⟩ := q4
    rfl
  exact l_loop C1 hL (L + 1) 0 (by omega) (by omega) H4 locs4 ad4 w4 ls hs4 q4 hSH e2 e1 hl
